def PreK (G : Gt) (κ : Nat → va_E) (N : Nat) (U : State) : Prop := HK G κ N U.heap ∧ va_K (Gd G) cls (tys G) U ∧ Nl U ∧ AOk U
def QK (G : Gt) (κ : Nat → va_E) (N : Nat) : Array Value → State → Outcome → State → Prop := fun _ st oc t => oc = .returned none ∧ HK G κ N t.heap ∧ va_F (Af G) st t
def rmK (d mc ms : Nat) : Room := { frames := d, cells := mc, slots := ms, locals := 64 * d }
theorem PreK.blind (G : Gt) (κ : Nat → va_E) (N : Nat) (av : List Value) : FrameBlind (va_Pc av (PreK G κ N)) := fun a U g mk q => by
  obtain ⟨q0, q1, q2, q3, q4⟩ := q
  exact ⟨q0, q1, va_K.moved (u := U) (U := U.calling g mk a) (Vm.Alike.refl U.vm) q2, Nl.same (s := U) rfl q3, AOk.moved (u := U) (U := U.calling g mk a) (Vm.Alike.refl U.vm) q4⟩
def Bw (l : Launch) (G : Gt) (M : Mt) (mc ms : Nat) (pc : Nat) (L : List (Nat × Value)) (st : List Value) (κ : Nat → va_E) (N cs ss : Nat) (κ' : Nat → va_E) (N' : Nat) : Prop :=
  ∀ (p : Program) (e : Env) (s : State) (m : MethodId) (args : Array Value) (below : List Frame) (meth : Method) (c : Code), Cx G M p s m args meth c → meth.name = "<init>" → AOk s → s.heap.size + cs = Gb G + N →
    ∀ (ls : Array Slot) (H : Heap) (locs : List Loc), lv_has ls M.2.2.1 L → HK G κ N H → va_S (Af G) s.heap H locs → W p l e (rmK M.2.2.2.2 mc ms) s m args below meth c H locs cs ss (MQ below (QK G κ' N') args s mc ms (Af G)) (F0 m pc ls st)
def CtK (l : Launch) (G : Gt) (y : MethodName) (M : Mt) (mc ms : Nat) (av : List Value) (κ : Nat → va_E) (N : Nat) (κ' : Nat → va_E) (N' : Nat) : Prop := Met l y (wsM y M) (rmK M.2.2.2.2 mc ms) (va_Pc av (PreK G κ N)) (QK G κ' N') mc ms (Af G)
theorem CtK.of {l : Launch} {G : Gt} {y : MethodName} {M : Mt} {mc ms : Nat} {av : List Value} {κ κ' : Nat → va_E} {N N' : Nat} (hy : plainName y.cls = true) (hi : y.name = "<init>") (ho : y.cls = M.1) (hn : (lg_sl av).length ≤ M.2.2.1) (k : Bw l G M mc ms 0 (lv_args 0 av) [] κ N 0 0 κ' N') : CtK l G y M mc ms av κ N κ' N' := by
  refine Met.ofW (cc := M.2.1) (maxL := M.2.2.1) (ret := M.2.2.2.1) hy rfl ?_
  intro p e s m args below meth c s₁ B hml hv
  obtain ⟨rfl, hP, hK, hN, hA⟩ := hv
  have hts := atoms_spec (ws := wsM y M) B.pre
  have hown : s.vm.findClass M.1 = some m.cls := by rw [← ho]; exact findClass_of_methodNamed B.named
  have hin : meth.name = "<init>" := by rw [← hi]; exact (name_of_methodNamed B.named B.method).1
  have hl := lv_entry av (n := M.2.2.1) hn
  rw [lg_entry_eq]
  exact k p e s m _ below meth c ⟨B.exec, B.bytes, hml, B.returns, hown, fun w hw => hts w (List.mem_cons_of_mem _ hw), B.notSynchronized, hK, hN⟩ hin hA (by rw [hP.2]; rfl) _ s.heap [] hl hP va_S.rf
section BRULES
variable {l : Launch} {G : Gt} {M : Mt} {mc ms pc q : Nat} {L L' : List (Nat × Value)} {st : List Value} {κ κ' : Nat → va_E} {N N' cs ss : Nat}
theorem Bw.iconst {n : Int} {v : Int32} (hv : Int32.ofInt n = v) (hq : pc + 1 = q) (d : decode M.2.1 pc = .ok (.iconst n, 1)) (k : Bw l G M mc ms q L (.int v :: st) κ (N) (cs) (ss) κ' N') : Bw l G M mc ms pc L (st) κ (N) (cs) (ss) κ' N' := by
  subst hq; exact fun p e s m args below meth c X hin hA hB ls H locs hl hP hS => lv_iconst X.1 X.2.1 d hv (k p e s m args below meth c X hin hA hB ls H locs hl hP hS)
theorem Bw.bipush {n : Int} {v : Int32} (hv : (Int8.ofInt n).toInt32 = v) (hq : pc + 2 = q) (d : decode M.2.1 pc = .ok (.bipush n, 2)) (k : Bw l G M mc ms q L (.int v :: st) κ (N) (cs) (ss) κ' N') : Bw l G M mc ms pc L (st) κ (N) (cs) (ss) κ' N' := by
  subst hq; exact fun p e s m args below meth c X hin hA hB ls H locs hl hP hS => lv_bipush X.1 X.2.1 d hv (k p e s m args below meth c X hin hA hB ls H locs hl hP hS)
theorem Bw.sipush {n : Int} {v : Int32} (hv : (Int16.ofInt n).toInt32 = v) (hq : pc + 3 = q) (d : decode M.2.1 pc = .ok (.sipush n, 3)) (k : Bw l G M mc ms q L (.int v :: st) κ (N) (cs) (ss) κ' N') : Bw l G M mc ms pc L (st) κ (N) (cs) (ss) κ' N' := by
  subst hq; exact fun p e s m args below meth c X hin hA hB ls H locs hl hP hS => lv_sipush X.1 X.2.1 d hv (k p e s m args below meth c X hin hA hB ls H locs hl hP hS)
theorem Bw.iload_n {i : Fin 4} {x : Int32} (j : Nat) (hj : L[j]? = some (i.val, .int x)) (hq : pc + 1 = q) (d : decode M.2.1 pc = .ok (.iload_n i, 1)) (k : Bw l G M mc ms q L (.int x :: st) κ (N) (cs) (ss) κ' N') : Bw l G M mc ms pc L (st) κ (N) (cs) (ss) κ' N' := by
  subst hq; exact fun p e s m args below meth c X hin hA hB ls H locs hl hP hS => lv_iload_n X.1 X.2.1 d rfl (lv_at hl j hj) (k p e s m args below meth c X hin hA hB ls H locs hl hP hS)
theorem Bw.aload_n {i : Fin 4} {x : Nat} (j : Nat) (hj : L[j]? = some (i.val, .ref x)) (hq : pc + 1 = q) (d : decode M.2.1 pc = .ok (.aload_n i, 1)) (k : Bw l G M mc ms q L (.ref x :: st) κ (N) (cs) (ss) κ' N') : Bw l G M mc ms pc L (st) κ (N) (cs) (ss) κ' N' := by
  subst hq; exact fun p e s m args below meth c X hin hA hB ls H locs hl hP hS => lv_aload_n X.1 X.2.1 d rfl (lv_at hl j hj) (k p e s m args below meth c X hin hA hB ls H locs hl hP hS)
theorem Bw.istore_n {i : Fin 4} {x : Int32} (hn : i.val < M.2.2.1) (hl' : (i.val, Value.int x) :: L.filter (fun q => !(q.1 == i.val) && !(q.1 + 1 == i.val && q.2.category == 2)) = L') (hq : pc + 1 = q) (d : decode M.2.1 pc = .ok (.istore_n i, 1)) (k : Bw l G M mc ms q L' (st) κ (N) (cs) (ss) κ' N') : Bw l G M mc ms pc L (.int x :: st) κ (N) (cs) (ss) κ' N' := by
  subst hq; exact fun p e s m args below meth c X hin hA hB ls H locs hl hP hS => lv_istore_n X.1 X.2.1 d rfl hl hn hl' (fun ls hl => k p e s m args below meth c X hin hA hB ls H locs hl hP hS)
theorem Bw.iinc {i : Nat} {n : Int} {x v : Int32} (j : Nat) (hj : L[j]? = some (i, .int x)) (hv : x + Int32.ofInt n = v) (hn : i < M.2.2.1) (hl' : (i, Value.int v) :: L.filter (fun q => !(q.1 == i) && !(q.1 + 1 == i && q.2.category == 2)) = L') (hq : pc + 3 = q) (d : decode M.2.1 pc = .ok (.iinc i n, 3)) (k : Bw l G M mc ms q L' (st) κ (N) (cs) (ss) κ' N') : Bw l G M mc ms pc L (st) κ (N) (cs) (ss) κ' N' := by
  subst hq; exact fun p e s m args below meth c X hin hA hB ls H locs hl hP hS => lv_iinc X.1 X.2.1 d hl hj hv hn hl' (fun ls hl => k p e s m args below meth c X hin hA hB ls H locs hl hP hS)
theorem Bw.dupr {x : Nat} (hq : pc + 1 = q) (d : decode M.2.1 pc = .ok (.dup, 1)) (k : Bw l G M mc ms q L (.ref x :: .ref x :: st) κ (N) (cs) (ss) κ' N') : Bw l G M mc ms pc L (.ref x :: st) κ (N) (cs) (ss) κ' N' := by
  subst hq; exact fun p e s m args below meth c X hin hA hB ls H locs hl hP hS => lv_dup X.1 X.2.1 d rfl (k p e s m args below meth c X hin hA hB ls H locs hl hP hS)
theorem Bw.goto {off : Int} (hq : (pc : Int) + off = (q : Int)) (d : decode M.2.1 pc = .ok (.goto off, 3)) (k : Bw l G M mc ms q L (st) κ (N) (cs) (ss) κ' N') : Bw l G M mc ms pc L (st) κ (N) (cs) (ss) κ' N' :=
  fun p e s m args below meth c X hin hA hB ls H locs hl hP hS => lv_goto X.1 X.2.1 d hq (k p e s m args below meth c X hin hA hB ls H locs hl hP hS)
theorem Bw.icmp_ge {x y : Int32} {off : Int} {t : Nat} (hq : pc + 3 = q) (ht : (pc : Int) + off = (t : Int)) (d : decode M.2.1 pc = .ok (.if_icmp .ge off, 3)) (kt : y ≤ x → Bw l G M mc ms t L (st) κ (N) (cs) (ss) κ' N') (kf : ¬ (y ≤ x) → Bw l G M mc ms q L (st) κ (N) (cs) (ss) κ' N') : Bw l G M mc ms pc L (.int y :: .int x :: st) κ (N) (cs) (ss) κ' N' := by
  subst hq; exact fun p e s m args below meth c X hin hA hB ls H locs hl hP hS => lv_icmp_ge X.1 X.2.1 d ht (fun hc => kt hc p e s m args below meth c X hin hA hB ls H locs hl hP hS) (fun hc => kf hc p e s m args below meth c X hin hA hB ls H locs hl hP hS)
theorem Bw.sub (ks : List Nat) (h : lv_pick L ks = L') (k : Bw l G M mc ms pc L' (st) κ (N) (cs) (ss) κ' N') : Bw l G M mc ms pc L (st) κ (N) (cs) (ss) κ' N' := fun p e s m args below meth c X hin hA hB ls H locs hl hP hS => k p e s m args below meth c X hin hA hB ls H locs (lv_sub hl ks h) hP hS
theorem Bw.congr {κ1 : Nat → va_E} (h : ∀ j, j < N → κ j = κ1 j) (k : Bw l G M mc ms pc L (st) κ1 (N) (cs) (ss) κ' N') : Bw l G M mc ms pc L (st) κ (N) (cs) (ss) κ' N' := fun p e s m args below meth c X hin hA hB ls H locs hl hP hS => k p e s m args below meth c X hin hA hB ls H locs hl (hP.congr h) hS
theorem Bw.vret (hr : M.2.2.2.1 = none) (hN : N = N') (h : ∀ j, j < N → ∀ H', va_at (Gd G) cls (Gb G + j, κ j) H' → va_at (Gd G) cls (Gb G + j, κ' j) H') (hc : cs ≤ mc) (hs : ss ≤ ms) (d : decode M.2.1 pc = .ok (.return_, 1)) : Bw l G M mc ms pc L ([]) κ (N) (cs) (ss) κ' N' := by
  subst hN
  refine fun p e s m args below meth c X hin hA hB ls H locs hl hP hS => ?_
  refine W.widen (k := mc) (n := ms) hc hs ?_
  exact W.vret X.1 X.2.1 (X.2.2.2.1.trans hr) (fun t ht hW => ⟨rfl, by rw [ht]; exact hP.to h, hS.F ht⟩) hS.2.2 d X.2.2.2.2.2.2.1
theorem Bw.objInit {i : Nat} {x : Nat} (h1 : Cond.methodLink M.1 i objectInit ∈ gtb) (h2 : Cond.instanceMethod objectInit ∈ gtb) (h3 : Cond.code objectInit ⟨#[0xb1]⟩ 1 none ∈ gtb) (hd : 1 ≤ M.2.2.2.2) (hw : (st.map fun v => v.category).sum ≤ 8) (hq : pc + 3 = q) (d : decode M.2.1 pc = .ok (.invokespecial i, 3)) (k : Bw l G M mc ms q L (st) κ (N) (cs) (ss) κ' N') : Bw l G M mc ms pc L (.ref x :: st) κ (N) (cs) (ss) κ' N' := by
  subst hq
  refine fun p e s m args below meth c X hin hA hB ls H locs hl hP hS => ?_
  refine W.objInit X.1 X.2.1 X.2.2.2.2.1 (X.2.2.2.2.2.1 _ h1) (X.2.2.2.2.2.1 _ h2) (X.2.2.2.2.2.1 _ h3) rfl (by rw [X.2.2.1]; exact hl.1) rfl d hd ?_ ?_
  · have := lv_room (m := m) (pc := pc) (ls := ls) (rest := (.ref x :: st)) (st := st) hw
    show _ ≤ 64 * M.2.2.2.2
    omega
  · exact (k p e s m args below meth c X hin hA hB ls H locs hl hP hS)
theorem Bw.newa {n : Int32} {K : Nat} (h1 : Cond.arrayClass .int ∈ gtb) (hn : ¬ n < 0) (hK : n.toNatClampNeg = K) (hb : K ≤ 100000) (hc : cs + 1 ≤ mc) (hs : ss + K ≤ ms) (hq : pc + 2 = q) (d : decode M.2.1 pc = .ok (.newarray .int, 2)) (k : Bw l G M mc ms q L (.ref (Gb G + N) :: st) (va_up κ N (.inl (G.2.2.2.1, K, .inl (fun _ => 0)))) (N + 1) (cs + 1) (ss + K) κ' N') : Bw l G M mc ms pc L (.int n :: st) κ (N) (cs) (ss) κ' N' := by
  subst hq
  refine fun p e s m args below meth c X hin hA hB ls H locs hl hP hS => ?_
  refine va_newaK X.1 X.2.1 (atype := .int) (X.2.2.2.2.2.1 _ h1) rfl d rfl hn hK (by show K * 4 ≤ 536870912; omega) hc hs rfl fun H1 cA e1 z1 o1 hAr hNm => ?_
  have hcI : cA = G.2.2.2.1 := by
    have h2 := (X.2.2.2.2.2.2.2.1.2 0 _ rfl).2
    have h3 : s.vm.findClass ("[" ++ FieldType.int.toString) = some G.2.2.2.1 := h2
    exact Option.some.inj (hNm.symm.trans h3)
  subst hcI
  have hS1 : va_S (Af G) s.heap H1 locs := ⟨Nat.le_trans hS.1 (by omega), fun x g1 g2 => (o1 x (Nat.lt_of_lt_of_le g1 hS.1)).trans (hS.2.1 x g1 g2), hS.2.2⟩
  have hP1 : HK G (va_up κ N (.inl (G.2.2.2.1, K, .inl (fun _ => 0)))) (N + 1) H1 := hP.push z1 o1 (by show H1[Gb G + N]? = _; rw [← hP.2]; exact e1)
  have k := k p e s m args below meth c X hin hA (by omega) ls H1 locs hl hP1 hS1
  rw [← hP.2] at k
  exact k
theorem Bw.anew {i t ci : Nat} {r : vw_C} {n : Int32} {K : Nat} (h1 : Cond.classLink M.1 i r.1 ∈ gtb) (hr : cls[ci]? = some r) (ht : (t = 8 ∧ ci = 0) ∨ (t = 9 ∧ ci = 3)) (hn : ¬ n < 0) (hK : n.toNatClampNeg = K) (hb : K ≤ 100000) (hc : cs + 1 ≤ mc) (hs : ss + K ≤ ms) (hq : pc + 3 = q) (d : decode M.2.1 pc = .ok (.anewarray i, 3)) (k : Bw l G M mc ms q L (.ref (Gb G + N) :: st) (va_up κ N (.inl (G.2.2.2.2 t, K, .inr (.inr (.inr (.inr (fun _ => none))))))) (N + 1) (cs + 1) (ss + K) κ' N') : Bw l G M mc ms pc L (.int n :: st) κ (N) (cs) (ss) κ' N' := by
  subst hq
  subst hK
  refine fun p e s m args below meth c X hin hA hB ls H locs hl hP hS => ?_
  have hao : va_AO r.1 s := by
    rcases ht with ⟨-, rfl⟩ | ⟨-, rfl⟩
    · cases hr; exact hA.1
    · cases hr; exact hA.2.1
  refine W.anew X.1 X.2.1 X.2.2.2.2.1 (X.2.2.2.2.2.1 _ h1) (va_AO.use hao) rfl d rfl hn (by omega) hc hs fun cA kA comp f1 f2 f3 f4 => ?_
  have hcI : cA = G.2.2.2.2 t := by
    rcases ht with ⟨rfl, rfl⟩ | ⟨rfl, rfl⟩
    · cases hr
      obtain ⟨_, _, _, _, _, g⟩ := (X.2.2.2.2.2.2.2.1.2 1 _ rfl).2
      exact Option.some.inj (f1.symm.trans g)
    · cases hr
      obtain ⟨_, _, _, _, _, g⟩ := (X.2.2.2.2.2.2.2.1.2 2 _ rfl).2
      exact Option.some.inj (f1.symm.trans g)
  subst hcI
  generalize hH1 : H.push ({ cls := G.2.2.2.2 t, slots := Array.replicate n.toNatClampNeg .null, vm := .none } : Cell) = H1
  have z1 : H1.size = H.size + 1 := by rw [← hH1, Array.size_push]
  have e1 : H1[H.size]? = some (arrV (G.2.2.2.2 t) n.toNatClampNeg (fun _ => .null)) := by rw [← hH1, Array.getElem?_push_size, ← arrV_new]
  have o1 : ∀ q : Nat, q < H.size → H1[q]? = H[q]? := fun q hq => by rw [← hH1, Array.getElem?_push, if_neg (Nat.ne_of_lt hq)]
  have hS1 : va_S (Af G) s.heap H1 locs := ⟨Nat.le_trans hS.1 (by omega), fun x g1 g2 => (o1 x (Nat.lt_of_lt_of_le g1 hS.1)).trans (hS.2.1 x g1 g2), hS.2.2⟩
  have hP1 : HK G (va_up κ N (.inl (G.2.2.2.2 t, n.toNatClampNeg, .inr (.inr (.inr (.inr (fun _ => none))))))) (N + 1) H1 := hP.push z1 o1 (by show H1[Gb G + N]? = _; rw [← hP.2]; exact e1)
  have k := k p e s m args below meth c X hin hA (by omega) ls H1 locs hl hP1 hS1
  rw [← hP.2] at k
  exact k
end BRULES
