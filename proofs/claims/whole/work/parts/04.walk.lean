/-- the links between nest mates -/
def nest : List (String × Nat × MethodName × String) := [(RX3, 30, yX0_init, RX5), (RX5, 25, yX4_init, RX5), (RX3, 54, yX5_isBelow, RX5), (RX3, 96, yX5_heldSpots, RX5), (RX3, 137, yX5_arePaired, RX5), (RX2, 85, yX5_heldSpots, RX5), (RX2, 124, yX5_arePaired, RX5), (RX2, 58, yX5_isBelow, RX5), (RX4, 21, yX5_isBelow, RX5)]
def Nl (s : State) : Prop := ∀ q ∈ nest, va_Nw (.methodLinkNest q.1 q.2.1 q.2.2.1 q.2.2.2) s
theorem Nl.warm {s U : State} (hW : s.WarmedH U.vm) (h : Nl s) : Nl U := fun q hq => va_Nw.warmM hW (h q hq)
theorem Nl.same {s U : State} (e : s.vm = U.vm) (h : Nl s) : Nl U := fun q hq => va_Nw.same rfl e (h q hq)
/-- what holds wherever a method's code is walked -/
def Cx (G : Gt) (M : Mt) (p : Program) (s : State) (m : MethodId) (args : Array Value) (meth : Method) (c : Code) : Prop :=
  p.tables.exec = Jvm.exec ∧ c.code = M.2.1 ∧ c.maxLocals = M.2.2.1 ∧ meth.sig.returnType = M.2.2.2.1 ∧ s.vm.findClass M.1 = some m.cls ∧ (∀ w ∈ gtb, w.before args s = true) ∧ meth.locks = false ∧ va_K (Gd G) cls (tys G) s ∧ Nl s
def Pre (G : Gt) (σ : Sg) (U : State) : Prop := va_P (Gd G) cls (wsO G σ) U.heap ∧ va_K (Gd G) cls (tys G) U ∧ Nl U
def Qx (G : Gt) {α : Type} (rv : α → Option Value) (a : α) (σ' : Sg) : Array Value → State → Outcome → State → Prop := fun _ st oc t => oc = .returned (rv a) ∧ va_P (Gd G) cls (wsO G σ') t.heap ∧ va_F (Af G) st t
def rI (x : Int32) : Option Value := some (.int x)
def rL (x : Int64) : Option Value := some (.long x)
def rV (_ : Unit) : Option Value := none
/-- from here, with these locals, this stack, these numbers: the method answers as E says (if E says anything) -/
def Aw (l : Launch) (G : Gt) (M : Mt) {α : Type} (rv : α → Option Value) (pc : Nat) (L : List (Nat × Value)) (st : List Value) (σ : Sg) (E : Option (α × Sg)) : Prop :=
  ∀ (a : α) (σ' : Sg), E = some (a, σ') → ∀ (p : Program) (e : Env) (s : State) (m : MethodId) (args : Array Value) (below : List Frame) (meth : Method) (c : Code), Cx G M p s m args meth c →
    ∀ (ls : Array Slot) (H : Heap) (locs : List Loc), lv_has ls M.2.2.1 L → va_P (Gd G) cls (wsO G σ) H → va_S (Af G) s.heap H locs → W p l e (rm M.2.2.2.2) s m args below meth c H locs 0 0 (MQ below (Qx G rv a σ') args s 0 0 (Af G)) (F0 m pc ls st)
/-- a method's contract -/
def Ct (l : Launch) (G : Gt) (y : MethodName) (M : Mt) {α : Type} (rv : α → Option Value) (av : List Value) (σ : Sg) (E : Option (α × Sg)) : Prop :=
  ∀ (a : α) (σ' : Sg), E = some (a, σ') → Met l y (wsM y M) (rm M.2.2.2.2) (va_Pc av (Pre G σ)) (Qx G rv a σ') 0 0 (Af G)
theorem Pre.blind (G : Gt) (σ : Sg) (av : List Value) : FrameBlind (va_Pc av (Pre G σ)) := fun a U g mk q => by
  obtain ⟨q0, q1, q2, q3⟩ := q
  exact ⟨q0, q1, va_K.moved (u := U) (U := U.calling g mk a) (Vm.Alike.refl U.vm) q2, Nl.same (s := U) rfl q3⟩
theorem Ct.of {l : Launch} {G : Gt} {y : MethodName} {M : Mt} {α : Type} {rv : α → Option Value} {av : List Value} {σ : Sg} {E : Option (α × Sg)} (hy : plainName y.cls = true) (ho : y.cls = M.1) (hn : (lg_sl av).length ≤ M.2.2.1) (k : Aw l G M rv 0 (lv_args 0 av) [] σ E) : Ct l G y M rv av σ E := by
  intro a σ' hE
  refine Met.ofW (cc := M.2.1) (maxL := M.2.2.1) (ret := M.2.2.2.1) hy rfl ?_
  intro p e s m args below meth c s₁ B hml hv
  obtain ⟨rfl, hP, hK, hN⟩ := hv
  have hts := atoms_spec (ws := wsM y M) B.pre
  have hown : s.vm.findClass M.1 = some m.cls := by rw [← ho]; exact findClass_of_methodNamed B.named
  have hl := lv_entry av (n := M.2.2.1) hn
  rw [lg_entry_eq]
  exact k a σ' hE p e s m _ below meth c ⟨B.exec, B.bytes, hml, B.returns, hown, fun w hw => hts w (List.mem_cons_of_mem _ hw), B.notSynchronized, hK, hN⟩ _ s.heap [] hl hP va_S.rf
section RULES
variable {l : Launch} {G : Gt} {M : Mt} {α : Type} {rv : α → Option Value} {pc : Nat} {L : List (Nat × Value)} {st : List Value} {σ : Sg} {E E1 E2 : Option (α × Sg)}
theorem Aw.no : Aw l G M rv pc L st σ none := fun a σ' h => by cases h
theorem Aw.gd {c : Prop} [Decidable c] (k : c → Aw l G M rv pc L st σ E) : Aw l G M rv pc L st σ (if c then E else none) := by
  by_cases h : c
  · rw [if_pos h]; exact k h
  · rw [if_neg h]; exact Aw.no
theorem Aw.br {c : Prop} [Decidable c] (k1 : c → Aw l G M rv pc L st σ E1) (k2 : ¬ c → Aw l G M rv pc L st σ E2) : Aw l G M rv pc L st σ (if c then E1 else E2) := by
  by_cases h : c
  · rw [if_pos h]; exact k1 h
  · rw [if_neg h]; exact k2 h
theorem Aw.eq (h : E = E1) (k : Aw l G M rv pc L st σ E1) : Aw l G M rv pc L st σ E := h ▸ k
/-- fewer locals -/
theorem Aw.sub {L' : List (Nat × Value)} (ks : List Nat) (h : lv_pick L ks = L') (k : Aw l G M rv pc L' st σ E) : Aw l G M rv pc L st σ E :=
  fun a σ' hE p e s m args below meth c X ls H locs hl hP hS => k a σ' hE p e s m args below meth c X ls H locs (lv_sub hl ks h) hP hS
end RULES
