/-! Constructors: cells are made one behind another, in the layout's order, so that each one's address is known. -/
def wsF (G : Gt) (κ : Nat → va_E) (N : Nat) : va_W := (List.range N).map (fun k => (Gb G + k, κ k))
theorem wsF_at (G : Gt) (κ : Nat → va_E) {N k : Nat} (h : k < N) : (wsF G κ N)[k]? = some (Gb G + k, κ k) := by
  unfold wsF
  rw [List.getElem?_map, List.getElem?_range h]
  rfl
theorem wsF_of (G : Gt) (κ : Nat → va_E) {N k : Nat} {q : Nat × va_E} (h : (wsF G κ N)[k]? = some q) : k < N ∧ q = (Gb G + k, κ k) := by
  rcases Nat.lt_or_ge k N with r | r
  · rw [wsF_at G κ r] at h
    exact ⟨r, (Option.some.inj h).symm⟩
  · exfalso
    unfold wsF at h
    rw [List.getElem?_eq_none (by rw [List.length_map, List.length_range]; exact r)] at h
    cases h
theorem wsF_D (G : Gt) (κ : Nat → va_E) (N : Nat) : va_D (Af G) (wsF G κ N) := by
  refine ⟨fun i j p q hi hj e => ?_, fun k q hk => ?_⟩
  · obtain ⟨-, rfl⟩ := wsF_of G κ hi
    obtain ⟨-, rfl⟩ := wsF_of G κ hj
    exact Nat.add_left_cancel e
  · obtain ⟨-, rfl⟩ := wsF_of G κ hk
    exact Nat.le_add_right _ _
theorem wsF_set (G : Gt) (κ : Nat → va_E) {N k : Nat} (h : k < N) (e : va_E) : (wsF G κ N).set k (Gb G + k, e) = wsF G (va_up κ k e) N := by
  apply List.ext_getElem?
  intro i
  by_cases hi : i = k
  · subst hi
    rw [List.getElem?_set_self (by unfold wsF; rw [List.length_map, List.length_range]; exact h), wsF_at G _ h]
    simp [va_up]
  · rw [List.getElem?_set_ne (Ne.symm hi)]
    rcases Nat.lt_or_ge i N with r | r
    · rw [wsF_at G κ r, wsF_at G _ r]
      simp [va_up, hi]
    · unfold wsF
      rw [List.getElem?_eq_none (by rw [List.length_map, List.length_range]; exact r), List.getElem?_eq_none (by rw [List.length_map, List.length_range]; exact r)]
theorem wsF_congr (G : Gt) {κ κ' : Nat → va_E} {N : Nat} (h : ∀ j, j < N → κ j = κ' j) : wsF G κ N = wsF G κ' N := by
  unfold wsF
  apply List.map_congr_left
  intro j hj
  rw [h j (List.mem_range.mp hj)]
/-- the heap holds cells of these kinds from the base on, and no more -/
def HK (G : Gt) (κ : Nat → va_E) (N : Nat) (H : Heap) : Prop := va_P (Gd G) cls (wsF G κ N) H ∧ H.size = Gb G + N
theorem HK.to {G : Gt} {κ κ' : Nat → va_E} {N : Nat} {H : Heap} (h : HK G κ N H) (e : ∀ j, j < N → ∀ H', va_at (Gd G) cls (Gb G + j, κ j) H' → va_at (Gd G) cls (Gb G + j, κ' j) H') : HK G κ' N H := by
  refine ⟨fun k q hk => ?_, h.2⟩
  obtain ⟨r, rfl⟩ := wsF_of G κ' hk
  exact e k r H (h.1 k _ (wsF_at G κ r))
theorem HK.congr {G : Gt} {κ κ' : Nat → va_E} {N : Nat} {H : Heap} (h : HK G κ N H) (e : ∀ j, j < N → κ j = κ' j) : HK G κ' N H := ⟨by rw [← wsF_congr G e]; exact h.1, h.2⟩
/-- a cell more -/
theorem HK.push {G : Gt} {κ : Nat → va_E} {N : Nat} {H H1 : Heap} {e : va_E} (h : HK G κ N H) (z : H1.size = H.size + 1) (o : ∀ q, q < H.size → H1[q]? = H[q]?) (a : va_at (Gd G) cls (Gb G + N, e) H1) : HK G (va_up κ N e) (N + 1) H1 := by
  refine ⟨fun k q hk => ?_, by rw [z, h.2]; omega⟩
  obtain ⟨r, rfl⟩ := wsF_of G _ hk
  by_cases hN : k = N
  · subst hN
    simpa [va_up] using a
  · have hk' : k < N := by omega
    have h1 := h.1 k _ (wsF_at G κ hk')
    have h2 : va_at (Gd G) cls (Gb G + k, κ k) H1 := h1.kept (o _ (by rw [h.2]; exact Nat.add_lt_add_left hk' _))
    simpa [va_up, hN] using h2
/-- arrays over classes -/
def AOk (s : State) : Prop := va_AO RX0 s ∧ va_AO RX3 s ∧ (Cond.arrayOver (.array .int)).before #[] s = true
theorem aoA_moved {t : FieldType} {u U : State} (hvm : u.vm.Alike U.vm) (h : (Cond.arrayOver (.array t)).before #[] u = true) : (Cond.arrayOver (.array t)).before #[] U = true := by
  obtain ⟨comp, c, k, h1, h2, h3, h4, h5⟩ := Jvm.Stand.arrayOver_specB h
  obtain ⟨k', hk', he⟩ := hvm.2.2 _ _ h3
  have hb : U.vm.bare = u.vm.bare := by first | exact hvm.bare_eq | exact hvm.bare_eq.symm
  have e1 := va_idx_bare U.vm comp
  rw [hb] at e1
  have hi : (U.vm.classes.findIdx? fun (x : Class) => match x.kind with | .array component _ => component == comp | _ => false) = some c := e1.symm.trans ((va_idx_bare u.vm comp).trans h2)
  have hkind : k'.kind = .array comp (.array t) := by rw [he]; exact h4
  have f1 : U.vm.findClass (FieldType.array t).toString = some comp := by rw [hvm.findClass]; exact h1
  have f2 : U.vm.findClass ("[" ++ (FieldType.array t).toString) = some c := by rw [hvm.findClass]; exact h5
  unfold Cond.before Cond.holds
  simp only [Cond.value]
  rw [f1, Option.bind_some]
  refine (congrArg (fun o : Option Nat => (o.bind (fun c => (U.vm.classes[c]?).map fun (k : Class) => match k.kind with | .array _ ty => decide (ty = FieldType.array t) && decide (U.vm.findClass ("[" ++ (FieldType.array t).toString) = some c) | _ => false) == some true)) hi).trans ?_
  simp [hk', hkind, f2]
theorem AOk.moved {u U : State} (hvm : u.vm.Alike U.vm) (h : AOk u) : AOk U := ⟨h.1.moved hvm, h.2.1.moved hvm, aoA_moved hvm h.2.2⟩
