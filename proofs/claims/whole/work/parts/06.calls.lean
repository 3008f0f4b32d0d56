/-- a call's answer handed on -/
def cb {α β : Type} (o : Option (α × Sg)) (K : α → Sg → Option (β × Sg)) : Option (β × Sg) := match o with
  | some (a, σ) => K a σ
  | none => none
theorem cb_some {α β : Type} (a : α) (σ : Sg) (K : α → Sg → Option (β × Sg)) : cb (some (a, σ)) K = K a σ := rfl
/-- a value gets a name -/
def bn {β γ : Type} (x : γ) (K : γ → β) : β := K x
theorem gtb_in {ws : List Cond} (h : ∀ w ∈ ws, w ∈ gtb) : GoodIn gtb ws := fun w hw => gtb_good w (h w hw)
def NM (y : MethodName) (n : Nat) : Prop := y.cls ≠ "java/lang/invoke/MethodHandle" ∧ y.cls ≠ "java/lang/invoke/VarHandle" ∧ (parseMethodDescriptor y.desc).map (fun d => d.parameters.length) = some n
/-- the words of a call on an object of class ci -/
def CV (own : String) (i ci : Nat) (y : MethodName) (M' : Mt) (n : Nat) : Prop := ∃ r : vw_C, cls[ci]? = some r ∧ y.cls = r.1 ∧ Cond.methodLink own i y ∈ gtb ∧ Cond.instanceMethod y ∈ gtb ∧ Cond.selects r.1 y y ∈ gtb ∧ Cond.initialized r.1 ∈ gtb ∧ Cond.code y M'.2.1 M'.2.2.1 M'.2.2.2.1 ∈ gtb ∧ NM y n
/-- the words of a call of a static method -/
def CS (own : String) (i : Nat) (y : MethodName) (M' : Mt) (n : Nat) : Prop := Cond.methodLink own i y ∈ gtb ∧ Cond.static y ∈ gtb ∧ Cond.initialized y.cls ∈ gtb ∧ Cond.code y M'.2.1 M'.2.2.1 M'.2.2.2.1 ∈ gtb ∧ NM y n
/-- the same, of a nest mate -/
def CN (own : String) (i : Nat) (y : MethodName) (host : String) (M' : Mt) (n : Nat) : Prop := (own, i, y, host) ∈ nest ∧ Cond.static y ∈ gtb ∧ Cond.initialized y.cls ∈ gtb ∧ Cond.code y M'.2.1 M'.2.2.1 M'.2.2.2.1 ∈ gtb ∧ NM y n
theorem rm_ok {M M' : Mt} (hd : M'.2.2.2.2 + 1 ≤ M.2.2.2.2) (hl : M'.2.2.1 ≤ 45) : (rm M'.2.2.2.2).frames + 1 ≤ (rm M.2.2.2.2).frames ∧ 8 + (M'.2.2.1 + 11) + (rm M'.2.2.2.2).locals ≤ (rm M.2.2.2.2).locals := ⟨hd, by show 8 + (M'.2.2.1 + 11) + 64 * M'.2.2.2.2 ≤ 64 * M.2.2.2.2; omega⟩
section CALLS
variable {l : Launch} {G : Gt} {M : Mt} {α β : Type} {rv : α → Option Value} {rv' : β → Option Value} {pc q : Nat} {L L' : List (Nat × Value)} {st : List Value} {σ : Sg} {E E1 E2 : Option (α × Sg)}
theorem Aw.bs {K : Sg → Option (α × Sg)} (k : ∀ τ, Aw l G M rv pc L st τ (K τ)) : Aw l G M rv pc L st σ (bn σ K) := k σ
theorem Aw.bl {x : Int64} {K : Int64 → Option (α × Sg)} (k : ∀ y, Aw l G M rv pc L (.long y :: st) σ (K y)) : Aw l G M rv pc L (.long x :: st) σ (bn x K) := k x
/-- the top of the stack gets a name -/
theorem Aw.bi {x : Int32} {K : Int32 → Option (α × Sg)} (k : ∀ y, Aw l G M rv pc L (.int y :: st) σ (K y)) : Aw l G M rv pc L (.int x :: st) σ (bn x K) := k x
theorem Aw.iret {v : Int32} (hr : M.2.2.2.1 = some .int) (d : decode M.2.1 pc = .ok (.ireturn, 1)) : Aw l G M rI pc L [.int v] σ (some (v, σ)) := by
  intro a σ' hE p e s m args below meth c X ls H locs hl hP hS
  cases hE
  exact W.iret X.1 X.2.1 (X.2.2.2.1.trans hr) (fun t ht hW => ⟨rfl, by rw [ht]; exact hP, hS.F ht⟩) hS.2.2 d X.2.2.2.2.2.2.1
theorem Aw.zret {v : Int32} (hr : M.2.2.2.1 = some .boolean) (hn : narrow .boolean (.int v) = .int v) (d : decode M.2.1 pc = .ok (.ireturn, 1)) : Aw l G M rI pc L [.int v] σ (some (v, σ)) := by
  intro a σ' hE p e s m args below meth c X ls H locs hl hP hS
  cases hE
  exact W.zret X.1 X.2.1 (X.2.2.2.1.trans hr) hn (fun t ht hW => ⟨rfl, by rw [ht]; exact hP, hS.F ht⟩) hS.2.2 d X.2.2.2.2.2.2.1
theorem Aw.zretG {v : Int32} (hr : M.2.2.2.1 = some .boolean) (d : decode M.2.1 pc = .ok (.ireturn, 1)) : Aw l G M rI pc L [.int v] σ (if v = 0 ∨ v = 1 then some (v, σ) else none) :=
  Aw.gd (fun h => Aw.zret hr (by rcases h with rfl | rfl <;> rfl) d)
theorem Aw.lret {v : Int64} (hr : M.2.2.2.1 = some .long) (d : decode M.2.1 pc = .ok (.lreturn, 1)) : Aw l G M rL pc L [.long v] σ (some (v, σ)) := by
  intro a σ' hE p e s m args below meth c X ls H locs hl hP hS
  cases hE
  exact W.lret X.1 X.2.1 (X.2.2.2.1.trans hr) (fun t ht hW => ⟨rfl, by rw [ht]; exact hP, hS.F ht⟩) hS.2.2 d X.2.2.2.2.2.2.1
theorem Aw.vret (hr : M.2.2.2.1 = none) (d : decode M.2.1 pc = .ok (.return_, 1)) : Aw l G M rV pc L [] σ (some ((), σ)) := by
  intro a σ' hE p e s m args below meth c X ls H locs hl hP hS
  cases hE
  exact W.vret X.1 X.2.1 (X.2.2.2.1.trans hr) (fun t ht hW => ⟨rfl, by rw [ht]; exact hP, hS.F ht⟩) hS.2.2 d X.2.2.2.2.2.2.1
theorem run_go {p : Program} {e : Env} {R : Room} {s : State} {m : MethodId} {args : Array Value} {below : List Frame} {meth : Method} {c : Code} {H : Heap} {locs : List Loc} {Q : State → Prop} {ls : Array Slot} {st0 rest : List Value} {a : β} {σ1 : Sg} {arr : Array Value} {cells slots : Nat}
    (hr : va_Run p l e R s m args below meth c H locs cells slots 0 0 (F0 m pc ls st0) rest (Qx G rv' a σ1 arr) (Af G)) (hS : va_S (Af G) s.heap H locs)
    (kk : ∀ (H1 : Heap) (locs1 : List Loc), va_P (Gd G) cls (wsO G σ1) H1 → va_S (Af G) s.heap H1 locs1 → W p l e R s m args below meth c H1 locs1 cells slots Q (F0 m (pc + 3) ls ((rv' a).toList ++ rest))) : W p l e R s m args below meth c H locs cells slots Q (F0 m pc ls st0) := by
  intro T hT X
  obtain ⟨v, st₀, t, T', L, h0, X', hL, e1, e2, ⟨hv, hp, hz, hk⟩, st⟩ := hr T hT X
  cases hv
  rw [h0] at hz hk
  obtain ⟨t2, a1, b1⟩ := kk T'.heap (locs ++ L) (by rw [e1]; exact hp)
    ⟨Nat.le_trans hS.1 (by rw [e1]; exact hz), fun q h1 h2 => by rw [e1, hk q (Nat.lt_of_lt_of_le h1 hS.1) h2]; exact hS.2.1 q h1 h2, fun q hq => by
      rcases List.mem_append.mp hq with h | h
      · exact hS.2.2 q h
      · exact hL q h⟩ T' rfl X'
  exact ⟨t2, st t2 a1, b1⟩
theorem Aw.callV {i ci n k : Nat} {y : MethodName} {M' : Mt} {As rest : List Value} {E0 : Option (β × Sg)} {K : β → Sg → Option (α × Sg)} (hv : CV M.1 i ci y M' n) (hc : ci ≤ 6) (hk : kd k = ci) (hct : Ct l G y M' rv' (.ref (Gb G + k) :: As) σ E0) (hn : As.length = n) (hs : st = As.reverse ++ .ref (Gb G + k) :: rest) (hw : (rest.map fun v => v.category).sum ≤ 8) (hd : M'.2.2.2.2 + 1 ≤ M.2.2.2.2) (hl : M'.2.2.1 ≤ 45)
    (hq : pc + 3 = q) (d : decode M.2.1 pc = .ok (.invokevirtual i, 3)) (kk : ∀ a σ1, E0 = some (a, σ1) → Aw l G M rv q L ((rv' a).toList ++ rest) σ1 (K a σ1)) : Aw l G M rv pc L st σ (cb E0 K) := by
  subst hq
  cases hE0 : E0 with
  | none => exact Aw.no
  | some x =>
    obtain ⟨a0, σ1⟩ := x
    have kk := kk a0 σ1 hE0
    obtain ⟨r, c1, c2, c3, c4, c5, c6, c7, c8⟩ := hv
    intro a σ' hE p e s m args below meth c X ls H locs hl' hP hS
    have hat := wsO_at G σ (k := k) (kd_lt (by omega))
    rw [ce_obj G σ hk hc] at hat
    refine run_go (va_runV (Ts := gtb) (As := As) (rest := rest) (C := r.1) ⟨X.1, X.2.1, X.2.2.1, X.2.2.2.2.1, X.2.2.2.2.2.1⟩ (hct a0 σ1 hE0) (cwV n X.2.2.2.2.2.1 (gtb_in (fun w hw => ?_)) rfl rfl rfl ⟨c2, c8.1, c8.2.1, c8.2.2⟩ (rm_ok hd hl)) ⟨Pre.blind G σ _, va_recv X.2.2.2.2.2.2.2.1 hP c1 hat, fun U hU hW => ⟨rfl, by rw [hU]; exact hP, va_K.moved hW.alike X.2.2.2.2.2.2.2.1, X.2.2.2.2.2.2.2.2.warm hW⟩⟩ rfl hn hl'.1 hs (lv_room hw) d ⟨Nat.le_refl _, Nat.le_refl _⟩) hS (fun H1 locs1 hP1 hS1 => kk a σ' hE p e s m args below meth c X ls H1 locs1 hl' hP1 hS1)
    rcases List.mem_append.mp hw with h | h
    · rcases List.mem_cons.mp h with rfl | h
      · exact c3
      rcases List.mem_cons.mp h with rfl | h
      · exact c4
      rcases List.mem_cons.mp h with rfl | h
      · exact c5
      rcases List.mem_cons.mp h with rfl | h
      · exact c6
      · cases h
    · rcases List.mem_cons.mp h with rfl | h
      · exact c7
      · exact h
theorem Aw.callS {i n : Nat} {y : MethodName} {M' : Mt} {As rest : List Value} {E0 : Option (β × Sg)} {K : β → Sg → Option (α × Sg)} (hv : CS M.1 i y M' n) (hct : Ct l G y M' rv' As σ E0) (hn : As.length = n) (hs : st = As.reverse ++ rest) (hw : (rest.map fun v => v.category).sum ≤ 8) (hd : M'.2.2.2.2 + 1 ≤ M.2.2.2.2) (hl : M'.2.2.1 ≤ 45)
    (hq : pc + 3 = q) (d : decode M.2.1 pc = .ok (.invokestatic i, 3)) (kk : ∀ a σ1, E0 = some (a, σ1) → Aw l G M rv q L ((rv' a).toList ++ rest) σ1 (K a σ1)) : Aw l G M rv pc L st σ (cb E0 K) := by
  subst hq
  cases hE0 : E0 with
  | none => exact Aw.no
  | some x =>
    obtain ⟨a0, σ1⟩ := x
    have kk := kk a0 σ1 hE0
    obtain ⟨c3, c4, c6, c7, c8⟩ := hv
    intro a σ' hE p e s m args below meth c X ls H locs hl' hP hS
    refine run_go (va_runS (Ts := gtb) (As := As) (rest := rest) ⟨X.1, X.2.1, X.2.2.1, X.2.2.2.2.1, X.2.2.2.2.2.1⟩ (hct a0 σ1 hE0) (va_cwS n X.2.2.2.2.2.1 (gtb_in (fun w hw => ?_)) rfl rfl rfl ⟨c8.1, c8.2.1, c8.2.2⟩ (rm_ok hd hl)) ⟨Pre.blind G σ _, fun U hU hW => ⟨rfl, by rw [hU]; exact hP, va_K.moved hW.alike X.2.2.2.2.2.2.2.1, X.2.2.2.2.2.2.2.2.warm hW⟩⟩ rfl hn hl'.1 hs (lv_room hw) d ⟨Nat.le_refl _, Nat.le_refl _⟩) hS (fun H1 locs1 hP1 hS1 => kk a σ' hE p e s m args below meth c X ls H1 locs1 hl' hP1 hS1)
    rcases List.mem_append.mp hw with h | h
    · rcases List.mem_cons.mp h with rfl | h
      · exact c3
      rcases List.mem_cons.mp h with rfl | h
      · exact c4
      rcases List.mem_cons.mp h with rfl | h
      · exact c6
      · cases h
    · rcases List.mem_cons.mp h with rfl | h
      · exact c7
      · exact h
theorem Aw.callN {i n : Nat} {y : MethodName} {host : String} {M' : Mt} {As rest : List Value} {E0 : Option (β × Sg)} {K : β → Sg → Option (α × Sg)} (hv : CN M.1 i y host M' n) (hct : Ct l G y M' rv' As σ E0) (hn : As.length = n) (hs : st = As.reverse ++ rest) (hw : (rest.map fun v => v.category).sum ≤ 8) (hd : M'.2.2.2.2 + 1 ≤ M.2.2.2.2) (hl : M'.2.2.1 ≤ 45)
    (hq : pc + 3 = q) (d : decode M.2.1 pc = .ok (.invokestatic i, 3)) (kk : ∀ a σ1, E0 = some (a, σ1) → Aw l G M rv q L ((rv' a).toList ++ rest) σ1 (K a σ1)) : Aw l G M rv pc L st σ (cb E0 K) := by
  subst hq
  cases hE0 : E0 with
  | none => exact Aw.no
  | some x =>
    obtain ⟨a0, σ1⟩ := x
    have kk := kk a0 σ1 hE0
    obtain ⟨c3, c4, c6, c7, c8⟩ := hv
    intro a σ' hE p e s m args below meth c X ls H locs hl' hP hS
    refine run_go (va_runSN (Ts := gtb) (As := As) (rest := rest) ⟨X.1, X.2.1, X.2.2.1, X.2.2.2.2.1, X.2.2.2.2.2.1⟩ (hct a0 σ1 hE0) ⟨va_cnB n X.2.2.2.2.2.1 (gtb_in (fun w hw => ?_)) rfl rfl rfl (X.2.2.2.2.2.2.2.2 _ c3) (X.2.2.2.2.2.1 _ c6) ⟨c8.1, c8.2.1, c8.2.2⟩ (rm_ok hd hl), X.2.2.2.2.2.1 _ c4, trivial⟩ ⟨Pre.blind G σ _, fun U hU hW => ⟨rfl, by rw [hU]; exact hP, va_K.moved hW.alike X.2.2.2.2.2.2.2.1, X.2.2.2.2.2.2.2.2.warm hW⟩⟩ rfl hn hl'.1 hs (lv_room hw) d ⟨Nat.le_refl _, Nat.le_refl _⟩) hS (fun H1 locs1 hP1 hS1 => kk a σ' hE p e s m args below meth c X ls H1 locs1 hl' hP1 hS1)
    rcases List.mem_cons.mp hw with rfl | h
    · exact c7
    · exact h
theorem Aw.callVi {i ci n k : Nat} {y : MethodName} {M' : Mt} {As rest : List Value} {E0 : Option (Int32 × Sg)} {K : Int32 → Sg → Option (α × Sg)} (hv : CV M.1 i ci y M' n) (hc : ci ≤ 6) (hk : kd k = ci) (hct : Ct l G y M' rI (.ref (Gb G + k) :: As) σ E0) (hn : As.length = n) (hs : st = As.reverse ++ .ref (Gb G + k) :: rest) (hw : (rest.map fun v => v.category).sum ≤ 8) (hd : M'.2.2.2.2 + 1 ≤ M.2.2.2.2) (hl : M'.2.2.1 ≤ 45) (hq : pc + 3 = q) (d : decode M.2.1 pc = .ok (.invokevirtual i, 3)) (kk : ∀ a σ1, E0 = some (a, σ1) → Aw l G M rv q L (.int a :: rest) σ1 (K a σ1)) : Aw l G M rv pc L st σ (cb E0 K) := Aw.callV hv hc hk hct hn hs hw hd hl hq d kk
theorem Aw.callVl {i ci n k : Nat} {y : MethodName} {M' : Mt} {As rest : List Value} {E0 : Option (Int64 × Sg)} {K : Int64 → Sg → Option (α × Sg)} (hv : CV M.1 i ci y M' n) (hc : ci ≤ 6) (hk : kd k = ci) (hct : Ct l G y M' rL (.ref (Gb G + k) :: As) σ E0) (hn : As.length = n) (hs : st = As.reverse ++ .ref (Gb G + k) :: rest) (hw : (rest.map fun v => v.category).sum ≤ 8) (hd : M'.2.2.2.2 + 1 ≤ M.2.2.2.2) (hl : M'.2.2.1 ≤ 45) (hq : pc + 3 = q) (d : decode M.2.1 pc = .ok (.invokevirtual i, 3)) (kk : ∀ a σ1, E0 = some (a, σ1) → Aw l G M rv q L (.long a :: rest) σ1 (K a σ1)) : Aw l G M rv pc L st σ (cb E0 K) := Aw.callV hv hc hk hct hn hs hw hd hl hq d kk
theorem Aw.callVv {i ci n k : Nat} {y : MethodName} {M' : Mt} {As rest : List Value} {E0 : Option (Unit × Sg)} {K : Unit → Sg → Option (α × Sg)} (hv : CV M.1 i ci y M' n) (hc : ci ≤ 6) (hk : kd k = ci) (hct : Ct l G y M' rV (.ref (Gb G + k) :: As) σ E0) (hn : As.length = n) (hs : st = As.reverse ++ .ref (Gb G + k) :: rest) (hw : (rest.map fun v => v.category).sum ≤ 8) (hd : M'.2.2.2.2 + 1 ≤ M.2.2.2.2) (hl : M'.2.2.1 ≤ 45) (hq : pc + 3 = q) (d : decode M.2.1 pc = .ok (.invokevirtual i, 3)) (kk : ∀ a σ1, E0 = some (a, σ1) → Aw l G M rv q L (rest) σ1 (K a σ1)) : Aw l G M rv pc L st σ (cb E0 K) := Aw.callV hv hc hk hct hn hs hw hd hl hq d kk
theorem Aw.callSi {i n : Nat} {y : MethodName} {M' : Mt} {As rest : List Value} {E0 : Option (Int32 × Sg)} {K : Int32 → Sg → Option (α × Sg)} (hv : CS M.1 i y M' n) (hct : Ct l G y M' rI As σ E0) (hn : As.length = n) (hs : st = As.reverse ++ rest) (hw : (rest.map fun v => v.category).sum ≤ 8) (hd : M'.2.2.2.2 + 1 ≤ M.2.2.2.2) (hl : M'.2.2.1 ≤ 45) (hq : pc + 3 = q) (d : decode M.2.1 pc = .ok (.invokestatic i, 3)) (kk : ∀ a σ1, E0 = some (a, σ1) → Aw l G M rv q L (.int a :: rest) σ1 (K a σ1)) : Aw l G M rv pc L st σ (cb E0 K) := Aw.callS hv hct hn hs hw hd hl hq d kk
theorem Aw.callSl {i n : Nat} {y : MethodName} {M' : Mt} {As rest : List Value} {E0 : Option (Int64 × Sg)} {K : Int64 → Sg → Option (α × Sg)} (hv : CS M.1 i y M' n) (hct : Ct l G y M' rL As σ E0) (hn : As.length = n) (hs : st = As.reverse ++ rest) (hw : (rest.map fun v => v.category).sum ≤ 8) (hd : M'.2.2.2.2 + 1 ≤ M.2.2.2.2) (hl : M'.2.2.1 ≤ 45) (hq : pc + 3 = q) (d : decode M.2.1 pc = .ok (.invokestatic i, 3)) (kk : ∀ a σ1, E0 = some (a, σ1) → Aw l G M rv q L (.long a :: rest) σ1 (K a σ1)) : Aw l G M rv pc L st σ (cb E0 K) := Aw.callS hv hct hn hs hw hd hl hq d kk
theorem Aw.callSv {i n : Nat} {y : MethodName} {M' : Mt} {As rest : List Value} {E0 : Option (Unit × Sg)} {K : Unit → Sg → Option (α × Sg)} (hv : CS M.1 i y M' n) (hct : Ct l G y M' rV As σ E0) (hn : As.length = n) (hs : st = As.reverse ++ rest) (hw : (rest.map fun v => v.category).sum ≤ 8) (hd : M'.2.2.2.2 + 1 ≤ M.2.2.2.2) (hl : M'.2.2.1 ≤ 45) (hq : pc + 3 = q) (d : decode M.2.1 pc = .ok (.invokestatic i, 3)) (kk : ∀ a σ1, E0 = some (a, σ1) → Aw l G M rv q L (rest) σ1 (K a σ1)) : Aw l G M rv pc L st σ (cb E0 K) := Aw.callS hv hct hn hs hw hd hl hq d kk
theorem Aw.callNi {i n : Nat} {y : MethodName} {host : String} {M' : Mt} {As rest : List Value} {E0 : Option (Int32 × Sg)} {K : Int32 → Sg → Option (α × Sg)} (hv : CN M.1 i y host M' n) (hct : Ct l G y M' rI As σ E0) (hn : As.length = n) (hs : st = As.reverse ++ rest) (hw : (rest.map fun v => v.category).sum ≤ 8) (hd : M'.2.2.2.2 + 1 ≤ M.2.2.2.2) (hl : M'.2.2.1 ≤ 45) (hq : pc + 3 = q) (d : decode M.2.1 pc = .ok (.invokestatic i, 3)) (kk : ∀ a σ1, E0 = some (a, σ1) → Aw l G M rv q L (.int a :: rest) σ1 (K a σ1)) : Aw l G M rv pc L st σ (cb E0 K) := Aw.callN hv hct hn hs hw hd hl hq d kk
theorem Aw.callNl {i n : Nat} {y : MethodName} {host : String} {M' : Mt} {As rest : List Value} {E0 : Option (Int64 × Sg)} {K : Int64 → Sg → Option (α × Sg)} (hv : CN M.1 i y host M' n) (hct : Ct l G y M' rL As σ E0) (hn : As.length = n) (hs : st = As.reverse ++ rest) (hw : (rest.map fun v => v.category).sum ≤ 8) (hd : M'.2.2.2.2 + 1 ≤ M.2.2.2.2) (hl : M'.2.2.1 ≤ 45) (hq : pc + 3 = q) (d : decode M.2.1 pc = .ok (.invokestatic i, 3)) (kk : ∀ a σ1, E0 = some (a, σ1) → Aw l G M rv q L (.long a :: rest) σ1 (K a σ1)) : Aw l G M rv pc L st σ (cb E0 K) := Aw.callN hv hct hn hs hw hd hl hq d kk
theorem Aw.callNv {i n : Nat} {y : MethodName} {host : String} {M' : Mt} {As rest : List Value} {E0 : Option (Unit × Sg)} {K : Unit → Sg → Option (α × Sg)} (hv : CN M.1 i y host M' n) (hct : Ct l G y M' rV As σ E0) (hn : As.length = n) (hs : st = As.reverse ++ rest) (hw : (rest.map fun v => v.category).sum ≤ 8) (hd : M'.2.2.2.2 + 1 ≤ M.2.2.2.2) (hl : M'.2.2.1 ≤ 45) (hq : pc + 3 = q) (d : decode M.2.1 pc = .ok (.invokestatic i, 3)) (kk : ∀ a σ1, E0 = some (a, σ1) → Aw l G M rv q L (rest) σ1 (K a σ1)) : Aw l G M rv pc L st σ (cb E0 K) := Aw.callN hv hct hn hs hw hd hl hq d kk
theorem Aw.mabs {i : Nat} {x : Int32} (h1 : Cond.methodLink M.1 i Lib.Math.abs.name ∈ gtb) (h2 : Cond.static Lib.Math.abs.name ∈ gtb) (h3 : Cond.initialized "java/lang/Math" ∈ gtb) (h4 : Cond.code Lib.Math.abs.name Lib.Math.abs.code 1 (some .int) ∈ gtb) (hw : (st.map fun v => v.category).sum ≤ 8) (hd : 1 ≤ M.2.2.2.2) (hq : pc + 3 = q) (d : decode M.2.1 pc = .ok (.invokestatic i, 3))
    (k : Aw l G M rv q L (.int (if 0 ≤ x then x else 0 - x) :: st) σ E) : Aw l G M rv pc L (.int x :: st) σ E := by
  subst hq
  exact fun a σ' hE p e s m args below meth c X ls H locs hl hP hS => va_mabs X.1 X.2.1 (X.2.2.1.trans hl.1.symm) X.2.2.2.2.1 (X.2.2.2.2.2.1 _ h1) (X.2.2.2.2.2.1 _ h2) (X.2.2.2.2.2.1 _ h3) (X.2.2.2.2.2.1 _ h4) hd (by show _ ≤ 64 * M.2.2.2.2; omega) (Nat.zero_le _) (Nat.zero_le _) d (k a σ' hE p e s m args below meth c X ls H locs hl hP hS)
theorem Aw.mmin {i : Nat} {x y : Int32} (h1 : Cond.methodLink M.1 i Lib.Math.min.name ∈ gtb) (h2 : Cond.static Lib.Math.min.name ∈ gtb) (h3 : Cond.initialized "java/lang/Math" ∈ gtb) (h4 : Cond.code Lib.Math.min.name Lib.Math.min.code 2 (some .int) ∈ gtb) (hw : (st.map fun v => v.category).sum ≤ 8) (hd : 1 ≤ M.2.2.2.2) (hq : pc + 3 = q) (d : decode M.2.1 pc = .ok (.invokestatic i, 3))
    (k : Aw l G M rv q L (.int (if y < x then y else x) :: st) σ E) : Aw l G M rv pc L (.int y :: .int x :: st) σ E := by
  subst hq
  exact fun a σ' hE p e s m args below meth c X ls H locs hl hP hS => va_mmin X.1 X.2.1 (X.2.2.1.trans hl.1.symm) X.2.2.2.2.1 (X.2.2.2.2.2.1 _ h1) (X.2.2.2.2.2.1 _ h2) (X.2.2.2.2.2.1 _ h3) (X.2.2.2.2.2.1 _ h4) hd (by show _ ≤ 64 * M.2.2.2.2; omega) (Nat.zero_le _) (Nat.zero_le _) d (k a σ' hE p e s m args below meth c X ls H locs hl hP hS)
/-- arraycopy of a whole stretch of int rows; the places are small constants -/
theorem Aw.acopy {i k0 k1 n0 n1 : Nat} {n : Int32} (h1 : Cond.methodLink M.1 i arraycopyName ∈ gtb) (h2 : Cond.native arraycopyName ∈ gtb) (h3 : Cond.static arraycopyName ∈ gtb) (h4 : Cond.initialized "java/lang/System" ∈ gtb) (hk0 : kd k0 = 7) (hk1 : kd k1 = 7) (hn0 : ln k0 = n0) (hn1 : ln k1 = n1) (hn : ¬ n < 0) (hs0 : n.toNatClampNeg ≤ n0) (hs1 : n.toNatClampNeg ≤ n1) (hw : (st.map fun v => v.category).sum ≤ 8) (hd : 1 ≤ M.2.2.2.2) (hq : pc + 3 = q) (d : decode M.2.1 pc = .ok (.invokestatic i, 3))
    (k : Aw l G M rv q L st (cpy σ k0 0 k1 0 n.toNatClampNeg) E) : Aw l G M rv pc L (.int n :: .int 0 :: .ref (Gb G + k1) :: .int 0 :: .ref (Gb G + k0) :: st) σ E := by
  subst hq; subst hn0; subst hn1
  refine fun a σ' hE p e s m args below meth c X ls H locs hl hP hS => ?_
  have l0 : k0 < 307 := kd_lt (by omega)
  have l1 : k1 < 307 := kd_lt (by omega)
  have a0 := wsO_at G σ l0
  rw [ce_int G σ hk0] at a0
  have a1 := wsO_at G σ l1
  rw [ce_int G σ hk1] at a1
  refine va_copyi (D := Gd G) X.1 X.2.1 (X.2.2.1.trans hl.1.symm) X.2.2.2.2.1 (X.2.2.2.2.2.1 _ h1) (X.2.2.2.2.2.1 _ h2) (X.2.2.2.2.2.1 _ h3) (X.2.2.2.2.2.1 _ h4) X.2.2.2.2.2.2.2.1 hP (wsO_D G σ) hS k0 k1 0 0 (ty := .int) a0 a1 rfl rfl rfl (by decide) (by decide) hn (by show 0 + _ ≤ _; omega) (by show 0 + _ ≤ _; omega) (fun _ _ => rfl) hd ?_ d (fun H locs hP hD hS => ?_)
  · have e1 : nativeFrameWords "java/lang/System" "arraycopy" 5 + 11 ≤ 40 := by decide +kernel
    show _ ≤ 64 * M.2.2.2.2
    omega
  · rw [wsO_set G σ (cpy σ k0 0 k1 0 n.toNatClampNeg) l1 (by rw [ce_int G _ hk1, cpy_s]; rfl) (fun j' hj => cpy_o σ k0 0 k1 0 _ hj)] at hP
    exact k a σ' hE p e s m args below meth c X ls H locs hl hP hS
end CALLS
