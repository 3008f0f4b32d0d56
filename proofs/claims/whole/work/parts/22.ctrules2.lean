/-- new, anywhere -/
theorem wNew {p : Program} {l : Launch} {e : Env} {R : Room} {s : State} {m : MethodId} {args : Array Value} {below : List Frame} {meth : Method} {c : Code} {H : Heap} {locs : List Loc} {cells slots : Nat} {Q : State → Prop} {G : Gt} {κ : Nat → va_E} {N : Nat} {own : String} {cc : ByteArray} {pc i ci : Nat} {r : vw_C} {ls : Array Slot} {rest : List Value} (hx : p.tables.exec = Jvm.exec) (hb : c.code = cc) (hown : s.vm.findClass own = some m.cls) (hts : ∀ w ∈ gtb, w.before args s = true) (hK : va_K (Gd G) cls (tys G) s)
    (hr : cls[ci]? = some r) (ty : Nat → FieldType) (hty : ∀ k, k < r.2.2 → parseFieldDescriptor (r.2.1 k).2.2.1 = some (ty k)) (hw : ∀ w ∈ u_ws r.1 r.2.1 r.2.2, w ∈ gtb) (h1 : Cond.classLink own i r.1 ∈ gtb) (h2 : Cond.instantiable r.1 r.2.2 ∈ gtb) (h3 : Cond.initialized r.1 ∈ gtb) {fs : List Value} (hfs : ∀ j, j < r.2.2 → defaultValue (ty j) = vp_V fs j)
    (hP : HK G κ N H) (hS : va_S (Af G) s.heap H locs) (hcells : cells + 1 ≤ R.cells) (hslots : slots + r.2.2 ≤ R.slots) (d : decode cc pc = .ok (.new i, 3))
    (kk : ∀ H1 : Heap, HK G (va_up κ N (.inr (ci, fs))) (N + 1) H1 → va_S (Af G) s.heap H1 locs → W p l e R s m args below meth c H1 locs (cells + 1) (slots + r.2.2) Q (F0 m (pc + 3) ls (.ref (Gb G + N) :: rest))) : W p l e R s m args below meth c H locs cells slots Q (F0 m pc ls rest) := by
  have hKn := hK.1 ci _ hr
  refine W.newcK hx hb hown (hts _ h1) (hts _ h2) (hts _ h3) rfl d hcells hslots hKn.2.1 rfl fun H1 kC hkC e1 z1 o1 => ?_
  have hS1 : va_S (Af G) s.heap H1 locs := ⟨Nat.le_trans hS.1 (by omega), fun x g1 g2 => (o1 x (Nat.lt_of_lt_of_le g1 hS.1)).trans (hS.2.1 x g1 g2), hS.2.2⟩
  have hP1 : HK G (va_up κ N (.inr (ci, fs))) (N + 1) H1 := hP.push z1 o1 (by rw [← hP.2]; exact ⟨_, hr, (u_born ty hts hw hKn hkC e1 hty).to hfs⟩)
  have k := kk H1 hP1 hS1
  rw [← hP.2] at k
  exact k
/-- a constructor's run, anywhere -/
theorem runK_go {p : Program} {l : Launch} {e : Env} {R : Room} {s : State} {m : MethodId} {args : Array Value} {below : List Frame} {meth : Method} {c : Code} {H : Heap} {locs : List Loc} {Q : State → Prop} {ls : Array Slot} {st0 rest : List Value} {G : Gt} {κ : Nat → va_E} {N pc : Nat} {arr : Array Value} {cells slots mc ms : Nat}
    (hr : va_Run p l e R s m args below meth c H locs cells slots mc ms (F0 m pc ls st0) rest (QK G κ N arr) (Af G)) (hS : va_S (Af G) s.heap H locs)
    (kk : ∀ (H1 : Heap) (locs1 : List Loc), HK G κ N H1 → va_S (Af G) s.heap H1 locs1 → W p l e R s m args below meth c H1 locs1 (cells + mc) (slots + ms) Q (F0 m (pc + 3) ls rest)) : W p l e R s m args below meth c H locs cells slots Q (F0 m pc ls st0) := by
  intro T hT X
  obtain ⟨v, st₀, t, T', L, h0, X', hL, e1, e2, ⟨hv, hp, hz, hk⟩, st⟩ := hr T hT X
  cases hv
  rw [h0] at hz hk
  obtain ⟨t2, a1, b1⟩ := kk T'.heap (locs ++ L) (by rw [e1]; exact hp)
    ⟨Nat.le_trans hS.1 (by rw [e1]; exact hz), fun q h1 h2 => by rw [e1, hk q (Nat.lt_of_lt_of_le h1 hS.1) h2]; exact hS.2.1 q h1 h2, fun q hq => by
      rcases List.mem_append.mp hq with h | h
      · exact hS.2.2 q h
      · exact hL q h⟩ T' rfl X'
  exact ⟨t2, st t2 a1, b1⟩
theorem rmK_ok {M M' : Mt} {mc ms mc' ms' : Nat} (hd : M'.2.2.2.2 + 1 ≤ M.2.2.2.2) (hl : M'.2.2.1 ≤ 45) : (rmK M'.2.2.2.2 mc' ms').frames + 1 ≤ (rmK M.2.2.2.2 mc ms).frames ∧ 8 + (M'.2.2.1 + 11) + (rmK M'.2.2.2.2 mc' ms').locals ≤ (rmK M.2.2.2.2 mc ms).locals := ⟨hd, by show 8 + (M'.2.2.1 + 11) + 64 * M'.2.2.2.2 ≤ 64 * M.2.2.2.2; omega⟩
section BRULES2
variable {l : Launch} {G : Gt} {M : Mt} {mc ms pc q : Nat} {L L' : List (Nat × Value)} {st : List Value} {κ κ' : Nat → va_E} {N N' cs ss : Nat}
theorem Bw.new {i ci : Nat} {r : vw_C} (hr : cls[ci]? = some r) (ty : Nat → FieldType) (hty : ∀ k, k < r.2.2 → parseFieldDescriptor (r.2.1 k).2.2.1 = some (ty k)) (hw : ∀ w ∈ u_ws r.1 r.2.1 r.2.2, w ∈ gtb) (h1 : Cond.classLink M.1 i r.1 ∈ gtb) (h2 : Cond.instantiable r.1 r.2.2 ∈ gtb) (h3 : Cond.initialized r.1 ∈ gtb) {fs : List Value} (hfs : ∀ j, j < r.2.2 → defaultValue (ty j) = vp_V fs j) {n : Nat} (hn : r.2.2 = n) (hc : cs + 1 ≤ mc) (hs : ss + n ≤ ms) (hq : pc + 3 = q) (d : decode M.2.1 pc = .ok (.new i, 3)) (k : Bw l G M mc ms q L (.ref (Gb G + N) :: st) (va_up κ N (.inr (ci, fs))) (N + 1) (cs + 1) (ss + n) κ' N') : Bw l G M mc ms pc L (st) κ (N) (cs) (ss) κ' N' := by
  subst hq; subst hn
  exact fun p e s m args below meth c X hin hA hB ls H locs hl hP hS => wNew X.1 X.2.1 X.2.2.2.2.1 X.2.2.2.2.2.1 X.2.2.2.2.2.2.2.1 hr ty hty hw h1 h2 h3 hfs hP hS hc hs d (fun H1 hP1 hS1 => k p e s m args below meth c X hin hA (by omega) ls H1 locs hl hP1 hS1)
theorem HK.set {G : Gt} {κ : Nat → va_E} {N k : Nat} {H1 : Heap} {e : va_E} (hk : k < N) (z : H1.size = Gb G + N) (h : va_P (Gd G) cls ((wsF G κ N).set k (Gb G + k, e)) H1) : HK G (va_up κ k e) N H1 := ⟨by rw [← wsF_set G κ hk e]; exact h, z⟩
theorem W_sz {p : Program} {l : Launch} {e : Env} {R : Room} {s : State} {m : MethodId} {args : Array Value} {below : List Frame} {meth : Method} {c : Code} {H : Heap} {locs : List Loc} {cells slots : Nat} {Q : State → Prop} {g : JFrame} (h : s.heap.size + cells ≤ H.size) (k : H.size = s.heap.size + cells → W p l e R s m args below meth c H locs cells slots Q g) : W p l e R s m args below meth c H locs cells slots Q g := by
  intro T hT X
  have h2 : T.heap.size ≤ s.heap.size + cells := X.same.2.2.1
  rw [hT] at h2
  exact k (Nat.le_antisymm h2 h) T hT X
theorem HK.low {G : Gt} {κ : Nat → va_E} {N k : Nat} {e : va_E} {H1 : Heap} (hk : k < N) (h : va_P (Gd G) cls ((wsF G κ N).set k (Gb G + k, e)) H1) : Gb G + N ≤ H1.size := by
  rw [wsF_set G κ hk e] at h
  have h2 := (h (N - 1) _ (wsF_at G _ (show N - 1 < N by omega))).lt
  have h3 : Gb G + (N - 1) < H1.size := h2
  omega
/-- a final reference field is set in its own constructor -/
theorem Bw.putR {i ci j k v : Nat} {fs : List Value} {t : Nat → FieldType} {r : vw_C} {ty : FieldType} (f : FL M.1 i ci j) (hr : cls[ci]? = some r) (hfin : (r.2.1 j).2.2.2 = true) (hdecl : (r.2.1 j).1 = M.1) (hd : parseFieldDescriptor (r.2.1 j).2.2.1 = some ty) (hty : ∀ k, k < r.2.2 → parseFieldDescriptor (r.2.1 k).2.2.1 = some (t k)) (hnm : ∀ a, a < r.2.2 → ∀ b, b < r.2.2 → a ≠ b → (r.2.1 a).2.1 ≠ (r.2.1 b).2.1) (hn : narrow ty (.ref (Gb G + v)) = .ref (Gb G + v)) (hft : fits ty (.ref (Gb G + v)) = true) (hk : k < N) (he : κ k = .inr (ci, fs)) (hlen : j < fs.length) (hq : pc + 3 = q) (d : decode M.2.1 pc = .ok (.putfield i, 3)) (kk : Bw l G M mc ms q L (st) (va_up κ k (.inr (ci, fs.set j (.ref (Gb G + v))))) (N) (cs) (ss) κ' N') : Bw l G M mc ms pc L (.ref (Gb G + v) :: .ref (Gb G + k) :: st) κ (N) (cs) (ss) κ' N' := by
  subst hq
  obtain ⟨r', f1, f2, f3, f4, f5⟩ := f
  cases hr.symm.trans f1
  refine fun p e s m args below meth c X hin hA hB ls H locs hl hP hS => ?_
  have hat := wsF_at G κ hk
  rw [he] at hat
  refine va_putF (D := Gd G) (C := r.1) (T := r.2.1) (N := r.2.2) X.1 X.2.1 X.2.2.2.2.2.1 f5 t hty hnm X.2.2.2.2.1 X.2.2.2.2.2.2.2.1 hP.1 (wsF_D G κ N) hS k hat hr j f2 (X.2.2.2.2.2.1 _ f4) (fun x hx => by rw [f3] at hx; exact hx) hfin hin hdecl hd hn hft hlen d (fun H1 locs1 hP1 hD1 hS1 => ?_)
  have hlow := HK.low hk hP1
  exact W_sz (by omega) (fun hz => kk p e s m args below meth c X hin hA hB ls H1 locs1 hl (HK.set hk (by omega) hP1) hS1)
theorem Bw.putI {i ci j k : Nat} {v : Int32} {fs : List Value} {ty : FieldType} (f : FL M.1 i ci j) (g : FP ci j ty) (hn : narrow ty (.int v) = .int v) (hft : fits ty (.int v) = true) (hk : k < N) (he : κ k = .inr (ci, fs)) (hlen : j < fs.length) (hq : pc + 3 = q) (d : decode M.2.1 pc = .ok (.putfield i, 3)) (kk : Bw l G M mc ms q L (st) (va_up κ k (.inr (ci, fs.set j (.int v)))) (N) (cs) (ss) κ' N') : Bw l G M mc ms pc L (.int v :: .ref (Gb G + k) :: st) κ (N) (cs) (ss) κ' N' := by
  subst hq
  obtain ⟨r, f1, f2, f3, f4, f5⟩ := f
  obtain ⟨r', t, g1, g2, g3, g4, g5⟩ := g
  cases f1.symm.trans g1
  refine fun p e s m args below meth c X hin hA hB ls H locs hl hP hS => ?_
  have hat := wsF_at G κ hk
  rw [he] at hat
  refine va_put (D := Gd G) (C := r.1) (T := r.2.1) (N := r.2.2) X.1 X.2.1 X.2.2.2.2.2.1 f5 t g4 g5 X.2.2.2.2.1 X.2.2.2.2.2.2.2.1 hP.1 (wsF_D G κ N) hS k hat f1 j f2 (X.2.2.2.2.2.1 _ f4) (fun x hx => by rw [f3] at hx; exact hx) g2 g3 hn hft hlen d (fun H1 locs1 hP1 hD1 hS1 => ?_)
  have hlow := HK.low hk hP1
  exact W_sz (by omega) (fun hz => kk p e s m args below meth c X hin hA hB ls H1 locs1 hl (HK.set hk (by omega) hP1) hS1)
theorem Bw.getR {i ci j k : Nat} {v : Value} {fs : List Value} (f : FL M.1 i ci j) (hk : k < N) (he : κ k = .inr (ci, fs)) (hv : fs[j]? = some v) (hq : pc + 3 = q) (d : decode M.2.1 pc = .ok (.getfield i, 3)) (kk : Bw l G M mc ms q L (v :: st) κ (N) (cs) (ss) κ' N') : Bw l G M mc ms pc L (.ref (Gb G + k) :: st) κ (N) (cs) (ss) κ' N' := by
  subst hq
  obtain ⟨r, f1, f2, f3, f4, f5⟩ := f
  refine fun p e s m args below meth c X hin hA hB ls H locs hl hP hS => ?_
  have hat := wsF_at G κ hk
  rw [he] at hat
  exact va_get (D := Gd G) (C := r.1) (T := r.2.1) (N := r.2.2) X.1 X.2.1 X.2.2.2.2.2.1 f5 X.2.2.2.2.1 X.2.2.2.2.2.2.2.1 hP.1 k hat f1 j f2 (X.2.2.2.2.2.1 _ f4) (fun x hx => by rw [f3] at hx; exact hx) hv d (kk p e s m args below meth c X hin hA hB ls H locs hl hP hS)
theorem Bw.aald {k n v : Nat} {i : Int32} {f : Nat → Option Nat} (hk : k < N) (he : κ k = .inl (G.2.2.2.2 10, n, .inr (.inr (.inr (.inr f))))) (hi : inb i n) (hv : f (ix i) = some v) (hq : pc + 1 = q) (d : decode M.2.1 pc = .ok (.aaload, 1)) (kk : Bw l G M mc ms q L (.ref v :: st) κ (N) (cs) (ss) κ' N') : Bw l G M mc ms pc L (.int i :: .ref (Gb G + k) :: st) κ (N) (cs) (ss) κ' N' := by
  subst hq
  refine fun p e s m args below meth c X hin hA hB ls H locs hl hP hS => ?_
  have hat := wsF_at G κ hk
  rw [he] at hat
  have hin2 := inb_in hi
  have hlt2 : i.toNatClampNeg < n := Nat.not_le.mp fun q => hin2 (Or.inr q)
  exact W.aald (v := .ref v) (ty := .array .int) X.1 X.2.1 (hP.1 k _ hat) ((X.2.2.2.2.2.2.2.1.2 3 _ rfl).1 _ (fun j => va_rf (f j))) rfl (fun q => by cases q) (by show ¬ (i < 0 ∨ (arrV _ _ _).slots.size ≤ _); rw [arrV_size]; exact hin2) (by show (arrV _ _ _).slots[_]? = _; rw [arrV_read _ _ hlt2]; exact congrArg (fun o => some (va_rf o)) hv) rfl rfl d (kk p e s m args below meth c X hin hA hB ls H locs hl hP hS)
theorem Bw.aast {k k2 n t ci : Nat} {i : Int32} {f : Nat → Option Nat} {fs : List Value} (ht : (t = 8 ∧ ci = 0) ∨ (t = 9 ∧ ci = 3)) (hk : k < N) (he : κ k = .inl (G.2.2.2.2 t, n, .inr (.inr (.inr (.inr f))))) (hk2 : k2 < N) (he2 : κ k2 = .inr (ci, fs)) (hi : inb i n) (hq : pc + 1 = q) (d : decode M.2.1 pc = .ok (.aastore, 1)) (kk : Bw l G M mc ms q L (st) (va_up κ k (.inl (G.2.2.2.2 t, n, .inr (.inr (.inr (.inr (va_up f (ix i) (some (Gb G + k2))))))))) (N) (cs) (ss) κ' N') : Bw l G M mc ms pc L (.ref (Gb G + k2) :: .int i :: .ref (Gb G + k) :: st) κ (N) (cs) (ss) κ' N' := by
  subst hq
  refine fun p e s m args below meth c X hin hA hB ls H locs hl hP hS => ?_
  have hat := wsF_at G κ hk
  rw [he] at hat
  have hat2 := wsF_at G κ hk2
  rw [he2] at hat2
  obtain ⟨t0, r, h1, h2⟩ : ∃ (t0 : Nat) (r : vw_C), (tys G)[t0]? = some (G.2.2.2.2 t, .object r.1) ∧ cls[ci]? = some r := by
    rcases ht with ⟨rfl, rfl⟩ | ⟨rfl, rfl⟩
    · exact ⟨1, _, rfl, rfl⟩
    · exact ⟨2, _, rfl, rfl⟩
  refine va_astq (D := Gd G) X.1 X.2.1 X.2.2.2.2.2.2.2.1 hP.1 (wsF_D G κ N) hS k t0 k2 ci hat h1 hat2 h2 (inb_in hi) d (fun H1 locs1 hP1 hD1 hS1 => ?_)
  have hlow := HK.low hk hP1
  exact W_sz (by omega) (fun hz => kk p e s m args below meth c X hin hA hB ls H1 locs1 hl (HK.set hk (by omega) hP1) hS1)
theorem Bw.iast {k n : Nat} {i x : Int32} {f : Nat → Int32} (hk : k < N) (he : κ k = .inl (G.2.2.2.1, n, .inl f)) (hi : inb i n) (hq : pc + 1 = q) (d : decode M.2.1 pc = .ok (.iastore, 1)) (kk : Bw l G M mc ms q L (st) (va_up κ k (.inl (G.2.2.2.1, n, .inl (upd f (ix i) x)))) (N) (cs) (ss) κ' N') : Bw l G M mc ms pc L (.int x :: .int i :: .ref (Gb G + k) :: st) κ (N) (cs) (ss) κ' N' := by
  subst hq
  refine fun p e s m args below meth c X hin hA hB ls H locs hl hP hS => ?_
  have hat := wsF_at G κ hk
  rw [he] at hat
  refine va_iast (D := Gd G) X.1 X.2.1 X.2.2.2.2.2.2.2.1 hP.1 (wsF_D G κ N) hS k 0 hat rfl (inb_in hi) d (fun H1 locs1 hP1 hD1 hS1 => ?_)
  have hlow := HK.low hk hP1
  exact W_sz (by omega) (fun hz => kk p e s m args below meth c X hin hA hB ls H1 locs1 hl (HK.set hk (by omega) hP1) hS1)
/-- a constructor is called -/
theorem Bw.callI {i k mc' ms' N1 : Nat} {y : MethodName} {M' : Mt} {κ1 : Nat → va_E} (hr : M'.2.2.2.1 = none) (hy : y.name = "<init>") (h1 : Cond.methodLink M.1 i y ∈ gtb) (h2 : Cond.instanceMethod y ∈ gtb) (h3 : Cond.initialized y.cls ∈ gtb) (h4 : Cond.code y M'.2.1 M'.2.2.1 M'.2.2.2.1 ∈ gtb) (h5 : NM y 0) (hct : CtK l G y M' mc' ms' [.ref (Gb G + k)] κ N κ1 N1) (hN1 : N1 = N + mc') (hd : M'.2.2.2.2 + 1 ≤ M.2.2.2.2) (hl : M'.2.2.1 ≤ 45) (hc : cs + mc' ≤ mc) (hs : ss + ms' ≤ ms) (hw : (st.map fun v => v.category).sum ≤ 8) (hq : pc + 3 = q) (d : decode M.2.1 pc = .ok (.invokespecial i, 3)) (kk : Bw l G M mc ms q L (st) κ1 (N1) (cs + mc') (ss + ms') κ' N') : Bw l G M mc ms pc L (.ref (Gb G + k) :: st) κ (N) (cs) (ss) κ' N' := by
  subst hq
  obtain ⟨own', cc', nL', ret', d'⟩ := M'
  dsimp only at hr h4 hd hl hct
  subst hr
  refine fun p e s m args below meth c X hin hA hB ls H locs hl' hP hS => ?_
  refine runK_go (va_runI (Ts := gtb) (As := []) (rest := st) ⟨X.1, X.2.1, X.2.2.1, X.2.2.2.2.1, X.2.2.2.2.2.1⟩ hct (cwI 0 X.2.2.2.2.2.1 (gtb_in (fun w hw => ?_)) rfl rfl rfl (X.2.2.2.2.2.1 _ h3) (X.2.2.2.2.2.1 _ h1) (X.2.2.2.2.2.1 _ h2) hy h5 ⟨hd, by show 8 + (nL' + 11) + 64 * d' ≤ 64 * M.2.2.2.2; omega⟩) ⟨PreK.blind G κ N _, fun U hU hW => ⟨rfl, by rw [hU]; exact hP, va_K.moved hW.alike X.2.2.2.2.2.2.2.1, X.2.2.2.2.2.2.2.2.warm hW, hA.moved hW.alike⟩⟩ rfl rfl hl'.1 rfl (lv_room hw) d ⟨hc, hs⟩) hS (fun H1 locs1 hP1 hS1 => kk p e s m args below meth c X hin hA (by omega) ls H1 locs1 hl' hP1 hS1)
  rcases List.mem_cons.mp hw with rfl | h
  · exact h4
  · exact h
theorem Bw.callIN {i k mc' ms' N1 : Nat} {y : MethodName} {host : String} {M' : Mt} {κ1 : Nat → va_E} (hr : M'.2.2.2.1 = none) (hy : y.name = "<init>") (h1 : (M.1, i, y, host) ∈ nest) (h2 : Cond.instanceMethod y ∈ gtb) (h3 : Cond.initialized y.cls ∈ gtb) (h4 : Cond.code y M'.2.1 M'.2.2.1 M'.2.2.2.1 ∈ gtb) (h5 : NM y 0) (hct : CtK l G y M' mc' ms' [.ref (Gb G + k)] κ N κ1 N1) (hN1 : N1 = N + mc') (hd : M'.2.2.2.2 + 1 ≤ M.2.2.2.2) (hl : M'.2.2.1 ≤ 45) (hc : cs + mc' ≤ mc) (hs : ss + ms' ≤ ms) (hw : (st.map fun v => v.category).sum ≤ 8) (hq : pc + 3 = q) (d : decode M.2.1 pc = .ok (.invokespecial i, 3)) (kk : Bw l G M mc ms q L (st) κ1 (N1) (cs + mc') (ss + ms') κ' N') : Bw l G M mc ms pc L (.ref (Gb G + k) :: st) κ (N) (cs) (ss) κ' N' := by
  subst hq
  obtain ⟨own', cc', nL', ret', d'⟩ := M'
  dsimp only at hr h4 hd hl hct
  subst hr
  refine fun p e s m args below meth c X hin hA hB ls H locs hl' hP hS => ?_
  refine runK_go (va_runIN (Ts := gtb) (As := []) (rest := st) ⟨X.1, X.2.1, X.2.2.1, X.2.2.2.2.1, X.2.2.2.2.2.1⟩ hct ⟨va_cnB 0 X.2.2.2.2.2.1 (gtb_in (fun w hw => ?_)) rfl rfl rfl (X.2.2.2.2.2.2.2.2 _ h1) (X.2.2.2.2.2.1 _ h3) h5 ⟨hd, by show 8 + (nL' + 11) + 64 * d' ≤ 64 * M.2.2.2.2; omega⟩, hy, X.2.2.2.2.2.1 _ h2⟩ ⟨PreK.blind G κ N _, fun U hU hW => ⟨rfl, by rw [hU]; exact hP, va_K.moved hW.alike X.2.2.2.2.2.2.2.1, X.2.2.2.2.2.2.2.2.warm hW, hA.moved hW.alike⟩⟩ rfl rfl hl'.1 rfl (lv_room hw) d ⟨hc, hs⟩) hS (fun H1 locs1 hP1 hS1 => kk p e s m args below meth c X hin hA (by omega) ls H1 locs1 hl' hP1 hS1)
  rcases List.mem_cons.mp hw with rfl | h
  · exact h4
  · exact h
end BRULES2
