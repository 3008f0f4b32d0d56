/-! The static layout: which cells there are behind the base, of which kind, how long, where their references point. -/
/-- a Square at a: itself, its five arrays, its eight calls of four cells -/
def sqBlk (a : Nat) : List (Nat × Nat × List Nat) := [(3, 9, [0, a + 1, a + 2, 0, a + 3, 0, a + 4, a + 5, 0]), (7, 8, []), (7, 8, []), (8, 8, (List.range 8).map (fun c => a + 6 + 4 * c)), (7, 12, []), (7, 8, [])] ++ (List.range 8).flatMap (fun c => [(0, 3, [a + 7 + 4 * c, a + 8 + 4 * c, a + 9 + 4 * c]), (7, 12, []), (7, 12, []), (7, 12, [])])
def layL : List (Nat × Nat × List Nat) := [(5, 5, [1, 39, 269, 273, 297])] ++ sqBlk 1 ++ [(1, 3, [40, 0, 0]), (9, 6, (List.range 6).map (fun i => 41 + 38 * i))] ++ (List.range 6).flatMap (fun i => sqBlk (41 + 38 * i)) ++
  [(4, 8, [270, 0, 0, 0, 0, 271, 272, 0]), (7, 120, []), (7, 3, []), (7, 12, []),
   (2, 15, [274, 284, 285, 286, 293, 294, 295, 296, 0, 0, 0, 0, 0, 0, 0]), (10, 9, (List.range 9).map (fun i => 275 + i))] ++ List.replicate 9 (7, 48, []) ++
  [(7, 8, []), (7, 8, []), (10, 6, (List.range 6).map (fun i => 287 + i))] ++ List.replicate 6 (7, 8, []) ++
  [(7, 6, []), (7, 8, []), (7, 5, []), (7, 8, []), (7, 3, []),
   (6, 14, [299, 300, 0, 301, 302, 0, 303, 304, 305, 306, 0, 0, 0, 0]), (7, 336, []), (7, 1680, []), (7, 336, []), (7, 3, []), (7, 120, []), (7, 96, []), (7, 6, []), (7, 1560, [])]
/-- a cell's kind: 0 to 6 the classes, 7 int[], 8 Call[], 9 Square[], 10 int[][], 99 none -/
def kd (k : Nat) : Nat := (layL.getD k (99, 0, [])).1
def ln (k : Nat) : Nat := (layL.getD k (99, 0, [])).2.1
def rf (k j : Nat) : Nat := (layL.getD k (99, 0, [])).2.2.getD j 0
/-- is the slot j of class c a reference -/
def irf (c j : Nat) : Bool := match c with
  | 0 => true
  | 1 => j == 0
  | 2 => decide (j < 8)
  | 3 => j == 1 || j == 2 || j == 4 || j == 6 || j == 7
  | 4 => j == 0 || j == 5 || j == 6
  | 5 => true
  | _ => j == 0 || j == 1 || j == 3 || j == 4 || j == 6 || j == 7 || j == 8 || j == 9
theorem lay_len : layL.length = 307 := by decide +kernel
theorem kd_lt {k : Nat} (h : kd k ≤ 10) : k < 307 := by
  rcases Nat.lt_or_ge k 307 with q | q
  · exact q
  · unfold kd at h
    rw [List.getD_eq_getElem?_getD, List.getElem?_eq_none (by rw [lay_len]; exact q)] at h
    exact absurd h (by decide)
/-- all numbers: of each cell, of each slot -/
abbrev Sg : Type := Nat → Nat → Int32
/-- the classes' numbers and slots, the base, int[]'s class, the other arrays' classes by kind -/
abbrev Gt : Type := (Nat → ClassId) × (Nat → Nat → Nat) × Nat × ClassId × (Nat → ClassId)
abbrev cls : List vw_C := [(RX0, TX0, 3), (RX1, TX1, 3), (RX2, TX2, 15), (RX3, TX3, 9), (RX4, TX4, 8), (RX5, TX5, 5), (RX6, TX6, 14)]
abbrev Gd (G : Gt) : va_G := (G.1, G.2.1)
abbrev Gb (G : Gt) : Nat := G.2.2.1
def tys (G : Gt) : List (ClassId × FieldType) := [(G.2.2.2.1, .int), (G.2.2.2.2 8, .object RX0), (G.2.2.2.2 9, .object RX3), (G.2.2.2.2 10, .array .int)]
def ceF (G : Gt) (σ : Sg) (k j : Nat) : Value := if irf (kd k) j = true then .ref (Gb G + rf k j) else .int (σ k j)
def ce (G : Gt) (σ : Sg) (k : Nat) : va_E := if kd k ≤ 6 then .inr (kd k, (List.range (ln k)).map (ceF G σ k)) else if kd k = 7 then .inl (G.2.2.2.1, ln k, .inl (σ k)) else .inl (G.2.2.2.2 (kd k), ln k, .inr (.inr (.inr (.inr (fun i => some (Gb G + rf k i))))))
def wsO (G : Gt) (σ : Sg) : va_W := (List.range 307).map (fun k => (Gb G + k, ce G σ k))
def Af (G : Gt) : Nat → Prop := fun q => Gb G ≤ q
theorem wsO_at (G : Gt) (σ : Sg) {k : Nat} (h : k < 307) : (wsO G σ)[k]? = some (Gb G + k, ce G σ k) := by
  unfold wsO
  rw [List.getElem?_map, List.getElem?_range h]
  rfl
theorem wsO_of (G : Gt) (σ : Sg) {k : Nat} {q : Nat × va_E} (h : (wsO G σ)[k]? = some q) : k < 307 ∧ q = (Gb G + k, ce G σ k) := by
  rcases Nat.lt_or_ge k 307 with r | r
  · rw [wsO_at G σ r] at h
    exact ⟨r, (Option.some.inj h).symm⟩
  · exfalso
    unfold wsO at h
    rw [List.getElem?_eq_none (by rw [List.length_map, List.length_range]; exact r)] at h
    cases h
theorem wsO_D (G : Gt) (σ : Sg) : va_D (Af G) (wsO G σ) := by
  refine ⟨fun i j p q hi hj e => ?_, fun k q hk => ?_⟩
  · obtain ⟨-, rfl⟩ := wsO_of G σ hi
    obtain ⟨-, rfl⟩ := wsO_of G σ hj
    exact Nat.add_left_cancel e
  · obtain ⟨-, rfl⟩ := wsO_of G σ hk
    exact Nat.le_add_right _ _
theorem ce_congr (G : Gt) (σ σ' : Sg) {k : Nat} (h : σ' k = σ k) : ce G σ' k = ce G σ k := by
  unfold ce
  have e : ceF G σ' k = ceF G σ k := by
    funext j
    unfold ceF
    rw [h]
  rw [e, h]
theorem wsO_set (G : Gt) (σ σ' : Sg) {k : Nat} (h : k < 307) {e : va_E} (he : e = ce G σ' k) (ho : ∀ j, j ≠ k → σ' j = σ j) : (wsO G σ).set k (Gb G + k, e) = wsO G σ' := by
  subst he
  apply List.ext_getElem?
  intro i
  by_cases hi : i = k
  · subst hi
    rw [List.getElem?_set_self (by unfold wsO; rw [List.length_map, List.length_range]; exact h), wsO_at G σ' h]
  · rw [List.getElem?_set_ne (Ne.symm hi)]
    rcases Nat.lt_or_ge i 307 with r | r
    · rw [wsO_at G σ r, wsO_at G σ' r, ce_congr G σ σ' (ho i hi)]
    · unfold wsO
      rw [List.getElem?_eq_none (by rw [List.length_map, List.length_range]; exact r), List.getElem?_eq_none (by rw [List.length_map, List.length_range]; exact r)]
/-- one number is set -/
def up (σ : Sg) (k i : Nat) (v : Int32) : Sg := fun a b => if a = k ∧ b = i then v else σ a b
theorem up_o (σ : Sg) (k i : Nat) (v : Int32) {j : Nat} (h : j ≠ k) : up σ k i v j = σ j := by
  funext b
  unfold up
  rw [if_neg (fun q => h q.1)]
theorem up_s (σ : Sg) (k i : Nat) (v : Int32) : up σ k i v k = upd (σ k) i v := by
  funext b
  unfold up upd
  by_cases h : b = i
  · rw [if_pos ⟨rfl, h⟩, if_pos h]
  · rw [if_neg (fun q => h q.2), if_neg h]
/-- a stretch of one row is copied -/
def cpy (σ : Sg) (a sp b dp n : Nat) : Sg := fun k i => if k = b then va_cpy (σ a) (σ b) sp dp n i else σ k i
theorem cpy_o (σ : Sg) (a sp b dp n : Nat) {j : Nat} (h : j ≠ b) : cpy σ a sp b dp n j = σ j := by
  funext i
  unfold cpy
  rw [if_neg h]
theorem cpy_s (σ : Sg) (a sp b dp n : Nat) : cpy σ a sp b dp n b = va_cpy (σ a) (σ b) sp dp n := by
  funext i
  unfold cpy
  rw [if_pos rfl]
theorem ce_obj (G : Gt) (σ : Sg) {k ci : Nat} (h : kd k = ci) (hc : ci ≤ 6) : ce G σ k = .inr (ci, (List.range (ln k)).map (ceF G σ k)) := by
  subst h
  unfold ce
  rw [if_pos hc]
theorem ce_int (G : Gt) (σ : Sg) {k : Nat} (h : kd k = 7) : ce G σ k = .inl (G.2.2.2.1, ln k, .inl (σ k)) := by
  unfold ce
  rw [if_neg (by rw [h]; decide), if_pos h]
theorem ce_ref (G : Gt) (σ : Sg) {k t : Nat} (h : kd k = t) (ht : 8 ≤ t) : ce G σ k = .inl (G.2.2.2.2 t, ln k, .inr (.inr (.inr (.inr (fun i => some (Gb G + rf k i)))))) := by
  subst h
  unfold ce
  rw [if_neg (by omega), if_neg (by omega)]
theorem ceF_set (G : Gt) (σ : Sg) {k j n : Nat} (v : Int32) (hi : irf (kd k) j = false) : ((List.range n).map (ceF G σ k)).set j (.int v) = (List.range n).map (ceF G (up σ k j v) k) := by
  apply List.ext_getElem?
  intro i
  by_cases h : i = j
  · subst h
    by_cases hn : i < n
    · rw [List.getElem?_set_self (by rw [List.length_map, List.length_range]; exact hn), List.getElem?_map, List.getElem?_range hn]
      simp [ceF, hi, up]
    · rw [List.getElem?_eq_none (by rw [List.length_set, List.length_map, List.length_range]; omega), List.getElem?_eq_none (by rw [List.length_map, List.length_range]; omega)]
  · rw [List.getElem?_set_ne (Ne.symm h), List.getElem?_map, List.getElem?_map]
    rcases Nat.lt_or_ge i n with r | r
    · rw [List.getElem?_range r]
      simp [ceF, up, h]
    · rw [List.getElem?_eq_none (by rw [List.length_range]; exact r)]
      rfl
/-! words: those of the tables that every call hands on; the nests' links beside them -/
def gtb : List Cond := lw_tbl.filter goodWord
theorem gtb_good : GoodIn gtb gtb := fun w h => ⟨h, good_of_word (List.mem_filter.mp h).2⟩
/-- a method: its class, code, locals, answer, rank -/
abbrev Mt : Type := String × ByteArray × Nat × Option FieldType × Nat
def rm (d : Nat) : Room := { frames := d, cells := 0, slots := 0, locals := 64 * d }
def wsM (y : MethodName) (M : Mt) : List Cond := Cond.code y M.2.1 M.2.2.1 M.2.2.2.1 :: gtb
