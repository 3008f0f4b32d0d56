/-- the cells that new int[n][k] makes -/
def mnaK (G : Gt) (κ : Nat → va_E) (N n k : Nat) : Nat → va_E := fun j => if j = N then .inl (G.2.2.2.2 10, n, .inr (.inr (.inr (.inr (fun i => if i < n then some (Gb G + (N + 1 + i)) else none))))) else if N < j ∧ j < N + 1 + n then .inl (G.2.2.2.1, k, .inl (fun _ => 0)) else κ j
theorem outer_eq (c : ClassId) (N h0 : Nat) : ∀ i : Nat, Jvm.Free.Multi.outerC c N h0 i = arrV c N (fun j => va_rf (if j < i then some (h0 + 1 + j) else none))
  | 0 => by
    show ({ cls := c, slots := Array.replicate N .null, vm := .none } : Cell) = _
    rw [arrV_new]
    refine congrArg (arrV c N) (funext fun j => ?_)
    simp [va_rf]
  | i + 1 => by
    show (Jvm.Free.Multi.outerC c N h0 i).setSlot i (.ref (h0 + 1 + i)) = _
    rw [outer_eq c N h0 i, arrV_store]
    refine congrArg (arrV c N) (funext fun j => ?_)
    by_cases e : j = i
    · subst e
      simp [updV, va_rf]
    · by_cases h : j < i
      · simp [updV, e, h, Nat.lt_succ_of_lt h]
      · simp [updV, e, h, show ¬ j < i + 1 by omega]
theorem inner_eq (c : ClassId) (K : Nat) : Jvm.Free.Multi.innerC c K (defaultValue .int) = arrV c K (fun _ => .int 0) := by
  rw [← arrV_new]
  rfl
section MNA
variable {l : Launch} {G : Gt} {M : Mt} {mc ms pc q : Nat} {L L' : List (Nat × Value)} {st : List Value} {κ κ' : Nat → va_E} {N N' cs ss : Nat}
theorem Bw.mna {i : Nat} {n k : Int32} {n' k' : Nat} (h1 : Cond.classLink M.1 i "[[I" ∈ gtb) (h2 : Cond.arrayClass .int ∈ gtb) (hn : ¬ n < 0) (hk : ¬ k < 0) (en : n.toNatClampNeg = n') (ek : k.toNatClampNeg = k') (bn : n' ≤ 100) (bk : k' ≤ 100) (hc : cs + (1 + n') ≤ mc) (hs : ss + (n' + n' * k') ≤ ms) (hq : pc + 4 = q) (d : decode M.2.1 pc = .ok (.multianewarray i 2, 4)) (kk : Bw l G M mc ms q L (.ref (Gb G + N) :: st) (mnaK G κ N n' k') (N + 1 + n') (cs + 1 + n') (ss + n' + n' * k') κ' N') : Bw l G M mc ms pc L (.int k :: .int n :: st) κ N cs ss κ' N' := by
  subst hq
  subst en
  subst ek
  refine fun p e s m args below meth c X hin hA hB ls H locs hl hP hS => ?_
  intro T hT Xs
  obtain ⟨vm₁, cA, comp, -, fA, fC, hO, -, X', step⟩ := Xs.multianewarray2F X.1 X.2.2.2.2.1 (ty := .int) (X.2.2.2.2.2.1 _ h1) hA.2.2 (X.2.2.2.2.2.1 _ h2) (g := F0 m pc ls (.int k :: .int n :: st)) rfl (by rw [X.2.1]; exact d) rfl hn hk (by omega) (by show k.toNatClampNeg * 4 ≤ 536870912; omega) (by omega) rfl rfl hc hs
  have eI : comp = G.2.2.2.1 := by
    have g1 : s.vm.findClass ("[" ++ FieldType.int.toString) = some G.2.2.2.1 := (X.2.2.2.2.2.2.2.1.2 0 _ rfl).2
    exact Option.some.inj (fC.symm.trans g1)
  have eA : cA = G.2.2.2.2 10 := by
    have g1 : s.vm.findClass ("[" ++ (FieldType.array .int).toString) = some (G.2.2.2.2 10) := (X.2.2.2.2.2.2.2.1.2 3 _ rfl).2
    exact Option.some.inj (fA.symm.trans g1)
  subst eI; subst eA
  generalize hF : Jvm.Free.Multi.fill (T.setVm vm₁) (G.2.2.2.2 10) G.2.2.2.1 n.toNatClampNeg k.toNatClampNeg (defaultValue .int) n.toNatClampNeg = F at X' step
  have hTh : (T.setVm vm₁).heap = H := hT
  obtain ⟨f1, f2, -, -⟩ := Jvm.Free.Multi.fill_facts (T.setVm vm₁) (G.2.2.2.2 10) G.2.2.2.1 n.toNatClampNeg k.toNatClampNeg (defaultValue .int) n.toNatClampNeg
  rw [hF, hTh] at f1 f2
  have hold : ∀ x : Nat, x < H.size → F.heap[x]? = H[x]? := fun x hx => by
    have := Jvm.Free.Multi.fill_old (T.setVm vm₁) (G.2.2.2.2 10) G.2.2.2.1 n.toNatClampNeg k.toNatClampNeg (defaultValue .int) (a := x) (by rw [hTh]; exact hx) n.toNatClampNeg
    rw [hF, hTh] at this
    exact this
  have hrow : ∀ j : Nat, j < n.toNatClampNeg → F.heap[H.size + 1 + j]? = some (arrV G.2.2.2.1 k.toNatClampNeg (fun _ => .int 0)) := fun j hj => by
    have := Jvm.Free.Multi.fill_inner (T.setVm vm₁) (G.2.2.2.2 10) G.2.2.2.1 n.toNatClampNeg k.toNatClampNeg (defaultValue .int) n.toNatClampNeg j hj
    rw [hF, hTh, inner_eq] at this
    exact this
  rw [outer_eq] at f2
  have hP1 : HK G (mnaK G κ N n.toNatClampNeg k.toNatClampNeg) (N + 1 + n.toNatClampNeg) F.heap := by
    refine ⟨fun j x hx => ?_, by rw [f1, hP.2]; omega⟩
    obtain ⟨r, rfl⟩ := wsF_of G _ hx
    by_cases e1 : j = N
    · subst e1
      show va_at _ _ (_, mnaK G κ j _ _ j) _
      rw [mnaK, if_pos rfl]
      show F.heap[Gb G + j]? = some (vp_cell _ _)
      rw [vp_cell_q, ← hP.2, f2]
      refine congrArg (fun z => some (arrV _ _ z)) (funext fun a => ?_)
      by_cases ha : a < n.toNatClampNeg
      · simp only [ha, if_true]
        rw [hP.2]
        exact congrArg (fun z => va_rf (some z)) (by omega)
      · simp only [ha, if_false]
    · by_cases e2 : N < j ∧ j < N + 1 + n.toNatClampNeg
      · rw [mnaK, if_neg e1, if_pos e2]
        show F.heap[Gb G + j]? = some (vp_cell _ _)
        rw [vp_cell_i]
        have := hrow (j - (N + 1)) (by omega)
        rw [hP.2, show Gb G + N + 1 + (j - (N + 1)) = Gb G + j by omega] at this
        exact this
      · rw [mnaK, if_neg e1, if_neg e2]
        have hj : j < N := by omega
        exact (hP.1 j _ (wsF_at G κ hj)).kept (hold _ (by rw [hP.2]; exact Nat.add_lt_add_left hj _))
  have hS1 : va_S (Af G) s.heap F.heap locs := ⟨by rw [f1]; have := hS.1; omega, fun x g1 g2 => (hold x (Nat.lt_of_lt_of_le g1 hS.1)).trans (hS.2.1 x g1 g2), hS.2.2⟩
  obtain ⟨t, a1, b1⟩ := kk p e s m args below meth c X hin hA (by omega) ls F.heap locs hl hP1 hS1 F rfl X'
  refine ⟨t, step t ?_, b1⟩
  have e0 : T.heap.size = Gb G + N := by rw [hT, hP.2]
  rw [e0]
  exact a1
end MNA
