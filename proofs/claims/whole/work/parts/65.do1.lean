/-! an order done -/
def OdCl (o : Od) (v : Vt) (g : Int32) (r : Int32) (v' : Vt) (g' : Int32) : Prop := ∀ σ, Cl σ 1 v g → OC σ o → ∃ σ', f_X5_doOrder 0 σ = some (r, σ') ∧ Cl σ' 1 v' g' ∧ ∀ k, (k < 1 ∨ 39 ≤ k) → σ' k = σ k
def OdMo (o : Od) (v : Vt) (g : Int32) (r : Int32) (v' : Vt) (g' : Int32) : Prop := ∀ σ b, Mo (σ 299) v g → b + 13 ≤ 1560 → OR σ b o → ∃ σ', f_X6_doesOne 298 (nI b) σ = some (r, σ') ∧ Mo (σ' 299) v' g' ∧ ∀ k, k ≠ 299 → σ' k = σ k
theorem st_272 : kd 272 = 7 ∧ ln 272 = 12 ∧ kd 299 = 7 ∧ ln 299 = 336 := by decide +kernel
/-- what doesOne reads first -/
theorem d1M {σ : Sg} {b : Nat} (hb : b + 13 ≤ 1560) : f_X6_doesOne 298 (nI b) σ = if σ 306 b = 100 then (cb (f_X6_comes 298 (σ 306 (b + 1)) (σ 306 (b + 2)) σ) (fun a6 τ7 => some (a6, τ7))) else if σ 306 b = 103 then (cb (f_X6_given 298 (σ 306 (b + 1)) σ) (fun a8 τ9 => some (a8, τ9))) else if σ 306 b = 112 then (cb (f_X6_plansOn 298 (σ 306 (b + 1)) σ) (fun a10 τ11 => some (a10, τ11))) else if σ 306 b = 117 then (cb (f_X6_setsAt 298 (σ 306 (b + 1)) (σ 306 (b + 2)) 1 (σ 306 (b + 3)) σ) (fun a13 τ14 => some (a13, τ14))) else if σ 306 b = 119 then (cb (f_X6_setsAt 298 (σ 306 (b + 1)) (σ 306 (b + 2)) 2 (σ 306 (b + 3)) σ) (fun a16 τ17 => some (a16, τ17))) else (cb (f_X6_adds 298 σ) (fun a18 τ19 => f_X6_doesOne_136 FU 298 (nI b) a18 0 τ19)) := by
  have i0 : inb (nI b) 1560 = true := by rw [inb_nI (by omega)]; exact decide_eq_true (by omega)
  have i1 : inb (nI (b + 1)) 1560 = true := by rw [inb_nI (by omega)]; exact decide_eq_true (by omega)
  have i2 : inb (nI (b + 2)) 1560 = true := by rw [inb_nI (by omega)]; exact decide_eq_true (by omega)
  have i3 : inb (nI (b + 3)) 1560 = true := by rw [inb_nI (by omega)]; exact decide_eq_true (by omega)
  rw [f_X6_doesOne, if_pos kd_298, show (nI b + 1 : Int32) = nI (b + 1) from nI_1 _, show (nI b + 2 : Int32) = nI (b + 2) from nI_add b 2, show (nI b + 3 : Int32) = nI (b + 3) from nI_add b 3, if_pos i1]
  simp only [bnE]
  rw [if_pos i2, if_pos i0, if_pos i3, if_pos i3, rf_298_9, ix_nI (show b < 2147483648 by omega), ix_nI (show b + 1 < 2147483648 by omega), ix_nI (show b + 2 < 2147483648 by omega), ix_nI (show b + 3 < 2147483648 by omega)]
theorem op_goes {gf : Nat → Nat} (hP : Pm gf) (v : Vt) (g : Int32) (hV : Va v) : ∃ (r : Int32) (v' : Vt) (g' : Int32), Va v' ∧ OkR r v g v' g' ∧ (∀ σ, Cl σ 1 v g → (∀ s, s < 12 → σ 272 s = nI (gf s)) → ∃ σ', f_X3_addCallThatGoes 1 272 σ = some (r, σ') ∧ Cl σ' 1 v' g' ∧ ∀ k, (k < 1 ∨ 39 ≤ k) → σ' k = σ k) ∧ (∀ σ b, Mo (σ 299) v g → b + 13 ≤ 1560 → RowG σ b gf → ∃ σ', cb (f_X6_adds 298 σ) (fun a18 τ19 => f_X6_doesOne_136 FU 298 (nI b) a18 0 τ19) = some (r, σ') ∧ Mo (σ' 299) v' g' ∧ ∀ k, k ≠ 299 → σ' k = σ k) := by
  obtain ⟨k272, l272, k299, l299⟩ := st_272
  have h1 := hV.2.1
  by_cases h8 : v 1 < 8
  · refine ⟨nI (v 1), addc v gf (fun _ => 0) (fun _ => 0), g, Va_add hV h8 (fun s hs => ⟨hP.1 s hs, by omega, by omega⟩) hP.2, Or.inl (ge0 (by omega)), fun τ hC hG => ?_, fun τ b hM hb hR => ?_⟩
    · obtain ⟨τ', e, q1, q2, q3, q4⟩ := addC hC h8
      obtain ⟨r0, r1, r2, -⟩ := c_at h8
      rw [f_X3_addCallThatGoes, if_pos kd_1, if_pos k272, e, cb_some, if_neg (show ¬ nI (v 1) < 0 by rw [show (0 : Int32) = nI 0 from rfl, n_lt (by omega) (by omega)]; omega), if_pos (by rw [inb_nI (by omega)]; exact decide_eq_true h8), l272, if_pos (Nat.le_refl _)]
      simp only [bnE]
      rw [rf_1_4, ix_nI (by omega), r0, r2]
      have ho : ∀ k, k ≠ 8 + 4 * v 1 → cpy τ' 272 0 (8 + 4 * v 1) 0 12 k = τ' k := fun k hk => cpy_o _ _ _ _ _ _ hk
      refine ⟨_, rfl, Cl_add hC hV h8 (fun s hs => ⟨?_, ?_, ?_⟩) ?_ (fun i hi => ?_) (fun k a b c d => ?_), fun k hk => ?_⟩
      · rw [cpy_at, if_pos ⟨by omega, hs⟩, q4 272 (by omega) (by omega) (by omega) (by omega)]; exact hG s hs
      · rw [ho _ (by omega)]; exact (q1 s hs).2.1
      · rw [ho _ (by omega)]; exact (q1 s hs).2.2
      · rw [ho _ (by omega)]; exact q2
      · rw [ho _ (by omega)]; exact q3 i hi
      · rw [ho _ (by omega)]; exact q4 k a b c d
      · rw [ho _ (by omega)]; exact q4 k (by omega) (by omega) (by omega) (by omega)
    · obtain ⟨τ', e, q1, q2⟩ := addsM hM hV h8
      rw [e, cb_some]
      have key := loopI (fun n j σ => f_X6_doesOne_136 n 298 (nI b) (nI (v 1)) (nI j) σ) (fun j σ => ∃ f t w, Mo (σ 299) (setc (vu v 1 (v 1 + 1)) (v 1) f t w) g ∧ (∀ s, s < 12 → t s = 0 ∧ w s = 0) ∧ (∀ s, s < j → f s = gf s) ∧ ∀ k, k ≠ 299 → σ k = τ k) (fun q => q.1 = nI (v 1) ∧ Mo (q.2 299) (addc v gf (fun _ => 0) (fun _ => 0)) g ∧ ∀ k, k ≠ 299 → q.2 k = τ k) 12 ?_ ?_ FU 0 τ' (by omega) (FU_gt (by omega)) ⟨_, _, _, by rw [addc_eq] at q1; exact q1, fun s hs => ⟨rfl, rfl⟩, fun s hs => absurd hs (Nat.not_lt_zero _), q2⟩
      · obtain ⟨⟨r, τ''⟩, e, rfl, h2, h3⟩ := key
        exact ⟨τ'', e, h2, h3⟩
      · intro n σ hI
        obtain ⟨f, t, w, h1, h2, h3, h4⟩ := hI
        refine ex_of (a := (nI (v 1), σ)) ?_ ⟨rfl, ?_, h4⟩
        · rw [f_X6_doesOne_136, if_pos kd_298, if_pos (by decide)]
        · rw [addc_eq]
          rw [setc_cong (g' := gf) (t' := fun _ => 0) (w' := fun _ => 0) (fun s hs => ⟨h3 s hs, h2 s hs⟩)] at h1
          exact h1
      · intro n j σ hj hI
        obtain ⟨f, t, w, h1, h2, h3, h4⟩ := hI
        have gj := hP.1 j hj
        have hM1 := Mo_up h1 (k := 36 + 36 * v 1 + j) (x := gf j) (by omega)
        rw [setc_ug _ _ _ _ _ hj] at hM1
        have i1 : inb (nI (b + 1 + j)) 1560 = true := by rw [inb_nI (by omega)]; exact decide_eq_true (by omega)
        have hrow : σ 306 (b + 1 + j) = nI (gf j) ∨ (σ 306 (b + 1 + j) = -1 ∧ gf j = j) := by rw [h4 306 (by omega)]; exact hR j hj
        have e191 : ∀ x : Int32, x = nI (gf j) → f_X6_doesOne_191 (f_X6_doesOne_136 n) 298 (nI b) (nI (v 1)) (nI j) 299 (nI (36 + 36 * v 1 + j)) x σ = f_X6_doesOne_136 n 298 (nI b) (nI (v 1)) (nI (j + 1)) (up σ 299 (36 + 36 * v 1 + j) (nI (gf j))) := fun x hx => by
          rw [f_X6_doesOne_191, if_pos kd_298, if_pos k299, l299, if_pos (by rw [inb_nI (by omega)]; exact decide_eq_true (by omega)), ix_nI (by omega), hx]
          simp only [bnE]
          rw [show (nI j + 1 : Int32) = nI (j + 1) from nI_1 _]
        refine stp (s' := up σ 299 (36 + 36 * v 1 + j) (nI (gf j))) ?_ ⟨_, _, _, hM1, h2, fun s hs => ?_, fun k hk => by rw [up_o _ _ _ _ hk]; exact h4 k hk⟩
        · rw [f_X6_doesOne_136, if_pos kd_298, if_neg (show ¬ 12 ≤ nI j by rw [show (12 : Int32) = nI 12 from rfl, n_le (by omega) (by omega)]; omega), if_neg (show ¬ nI (v 1) < 0 by rw [show (0 : Int32) = nI 0 from rfl, n_lt (by omega) (by omega)]; omega), show (0 : Int32) = nI 0 from rfl, place0, cb_some, show (nI b + 1 : Int32) = nI (b + 1) from nI_1 _, nI_add, if_pos i1, if_pos i1, rf_298_9, rf_298_0, ix_nI (by omega)]
          rcases hrow with hr | ⟨hr, hr2⟩
          · rw [hr, if_pos (show nI 0 ≤ nI (gf j) from ge0 (by omega))]
            exact e191 _ rfl
          · rw [hr, if_neg (show ¬ nI 0 ≤ -1 by decide)]
            exact e191 _ (by rw [hr2])
        · by_cases e : s = j
          · rw [e, fu_s]
          · rw [fu_n _ _ e]; exact h3 s (by omega)
  · have e8 : v 1 = 8 := by omega
    refine ⟨-4, v, g, hV, Or.inr ⟨2, rfl, rfl, rfl⟩, fun τ hC hG => ⟨τ, ?_, hC, fun k hk => rfl⟩, fun τ b hM hb hR => ⟨τ, ?_, hM, fun k hk => rfl⟩⟩
    · rw [f_X3_addCallThatGoes, if_pos kd_1, if_pos k272, f_X3_addCall, if_pos kd_1, hC.2.1, if_neg (by rw [e8]; decide), cb_some, if_pos (by decide)]
    · obtain ⟨m, hm⟩ : ∃ m, FU = m + 1 := ⟨FU - 1, by have := FU_gt (show 3 < 100000 by omega); omega⟩
      rw [f_X6_adds, if_pos kd_298, if_pos (by decide), rf_298_0, show ix 1 = 1 from rfl, hM.2 1 (by omega) (by omega), if_pos (by rw [e8]; rfl), cb_some, hm, f_X6_doesOne_136, if_pos kd_298, if_neg (by decide), if_pos (by decide)]
theorem od_do {o : Od} (ho : Ok o) (v : Vt) (g : Int32) (hV : Va v) : ∃ (r : Int32) (v' : Vt) (g' : Int32), Va v' ∧ OkR r v g v' g' ∧ OdCl o v g r v' g' ∧ OdMo o v g r v' g' := by
  obtain ⟨k, ns, gf⟩ := o
  obtain ⟨w, hw, hg, hn⟩ := ho
  have hk : k = 100 ∨ k = 103 ∨ k = 107 ∨ k = 112 ∨ k = 117 ∨ k = 119 := by
    dsimp only at hw
    unfold nb at hw
    repeat' split at hw
    all_goals first | omega | (cases hw)
  rcases hk with rfl | rfl | rfl | rfl | rfl | rfl
  · obtain ⟨r, v', g', h1, h2, hc, hm⟩ := op_dancer (nI (ns 0)) (nI (ns 1)) v g hV
    refine ⟨r, v', g', h1, h2, fun σ hC hO => ?_, fun σ b hM hb hR => ?_⟩
    · obtain ⟨o1, o2, -⟩ := hO
      have a4 : σ 269 4 = nI 100 := o1
      have n0 : σ 271 0 = nI (ns 0) := o2 (show (100 : Nat) ≠ 107 by decide) 2 rfl 0 (by omega)
      have n1 : σ 271 1 = nI (ns 1) := o2 (show (100 : Nat) ≠ 107 by decide) 2 rfl 1 (by omega)
      obtain ⟨σ', e, c1, c2⟩ := hc σ hC
      rw [f_X5_doOrder, if_pos kd_0, rf_0_2, a4, if_pos (show nI 100 = 100 from rfl), if_pos (show inb 0 3 = true by decide), if_pos (show inb 1 3 = true by decide), rf_0_0, rf_269_5, show ix 0 = 0 from rfl, show ix 1 = 1 from rfl, n0, n1, e, cb_some]
      exact ⟨σ', rfl, c1, c2⟩
    · obtain ⟨o1, o2, -⟩ := hR
      have a4 : σ 306 b = nI 100 := o1
      have n0 : σ 306 (b + 1) = nI (ns 0) := o2 (show (100 : Nat) ≠ 107 by decide) 2 rfl 0 (by omega)
      have n1 : σ 306 (b + 2) = nI (ns 1) := o2 (show (100 : Nat) ≠ 107 by decide) 2 rfl 1 (by omega)
      obtain ⟨σ', e, c1, c2⟩ := hm σ hM
      rw [d1M hb, a4, if_pos (show nI 100 = 100 from rfl), n0, n1, e, cb_some]
      exact ⟨σ', rfl, c1, c2⟩
  · obtain ⟨r, v', g', h1, h2, hc, hm⟩ := op_gives (nI (ns 0)) v g hV
    refine ⟨r, v', g', h1, h2, fun σ hC hO => ?_, fun σ b hM hb hR => ?_⟩
    · obtain ⟨o1, o2, -⟩ := hO
      have a4 : σ 269 4 = nI 103 := o1
      have n0 : σ 271 0 = nI (ns 0) := o2 (show (103 : Nat) ≠ 107 by decide) 1 rfl 0 (by omega)
      obtain ⟨σ', e, c1, c2⟩ := hc σ hC
      rw [f_X5_doOrder, if_pos kd_0, rf_0_2, a4, if_neg (show ¬ nI 103 = 100 by decide), if_neg (show ¬ nI 103 = 101 by decide), if_neg (show ¬ nI 103 = 102 by decide), if_pos (show nI 103 = 103 from rfl), if_pos (show inb 0 3 = true by decide), rf_0_0, rf_269_5, show ix 0 = 0 from rfl, n0, e, cb_some]
      exact ⟨σ', rfl, c1, c2⟩
    · obtain ⟨o1, o2, -⟩ := hR
      have a4 : σ 306 b = nI 103 := o1
      have n0 : σ 306 (b + 1) = nI (ns 0) := o2 (show (103 : Nat) ≠ 107 by decide) 1 rfl 0 (by omega)
      obtain ⟨σ', e, c1, c2⟩ := hm σ hM
      rw [d1M hb, a4, if_neg (show ¬ nI 103 = 100 by decide), if_pos (show nI 103 = 103 from rfl), n0, e, cb_some]
      exact ⟨σ', rfl, c1, c2⟩
  · obtain ⟨r, v', g', h1, h2, hc, hm⟩ := op_goes (hg rfl) v g hV
    refine ⟨r, v', g', h1, h2, fun σ hC hO => ?_, fun σ b hM hb hR => ?_⟩
    · obtain ⟨o1, -, o3⟩ := hO
      have a4 : σ 269 4 = nI 107 := o1
      obtain ⟨σ', e, c1, c2⟩ := hc σ hC (o3 rfl)
      rw [f_X5_doOrder, if_pos kd_0, rf_0_2, a4, if_neg (show ¬ nI 107 = 100 by decide), if_neg (show ¬ nI 107 = 101 by decide), if_neg (show ¬ nI 107 = 102 by decide), if_neg (show ¬ nI 107 = 103 by decide), if_neg (show ¬ nI 107 = 104 by decide), if_neg (show ¬ nI 107 = 105 by decide), if_neg (show ¬ nI 107 = 106 by decide), if_pos (show nI 107 = 107 from rfl), rf_0_0, rf_269_6, e, cb_some]
      exact ⟨σ', rfl, c1, c2⟩
    · obtain ⟨o1, -, o3⟩ := hR
      have a4 : σ 306 b = nI 107 := o1
      obtain ⟨σ', e, c1, c2⟩ := hm σ b hM hb (o3 rfl)
      rw [d1M hb, a4, if_neg (show ¬ nI 107 = 100 by decide), if_neg (show ¬ nI 107 = 103 by decide), if_neg (show ¬ nI 107 = 112 by decide), if_neg (show ¬ nI 107 = 117 by decide), if_neg (show ¬ nI 107 = 119 by decide), e]
      exact ⟨σ', rfl, c1, c2⟩
  · obtain ⟨r, v', g', h1, h2, hc, hm⟩ := op_plans (nI (ns 0)) v g hV
    refine ⟨r, v', g', h1, h2, fun σ hC hO => ?_, fun σ b hM hb hR => ?_⟩
    · obtain ⟨o1, o2, -⟩ := hO
      have a4 : σ 269 4 = nI 112 := o1
      have n0 : σ 271 0 = nI (ns 0) := o2 (show (112 : Nat) ≠ 107 by decide) 1 rfl 0 (by omega)
      obtain ⟨σ', e, c1, c2⟩ := hc σ hC
      rw [f_X5_doOrder, if_pos kd_0, rf_0_2, a4, if_neg (show ¬ nI 112 = 100 by decide), if_neg (show ¬ nI 112 = 101 by decide), if_neg (show ¬ nI 112 = 102 by decide), if_neg (show ¬ nI 112 = 103 by decide), if_neg (show ¬ nI 112 = 104 by decide), if_neg (show ¬ nI 112 = 105 by decide), if_neg (show ¬ nI 112 = 106 by decide), if_neg (show ¬ nI 112 = 107 by decide), if_neg (show ¬ nI 112 = 108 by decide), if_neg (show ¬ nI 112 = 109 by decide), if_neg (show ¬ nI 112 = 110 by decide), if_neg (show ¬ nI 112 = 111 by decide), if_pos (show nI 112 = 112 from rfl), if_pos (show inb 0 3 = true by decide), rf_0_0, rf_269_5, show ix 0 = 0 from rfl, n0, e, cb_some]
      exact ⟨σ', rfl, c1, c2⟩
    · obtain ⟨o1, o2, -⟩ := hR
      have a4 : σ 306 b = nI 112 := o1
      have n0 : σ 306 (b + 1) = nI (ns 0) := o2 (show (112 : Nat) ≠ 107 by decide) 1 rfl 0 (by omega)
      obtain ⟨σ', e, c1, c2⟩ := hm σ hM
      rw [d1M hb, a4, if_neg (show ¬ nI 112 = 100 by decide), if_neg (show ¬ nI 112 = 103 by decide), if_pos (show nI 112 = 112 from rfl), n0, e, cb_some]
      exact ⟨σ', rfl, c1, c2⟩
  · obtain ⟨r, v', g', h1, h2, hc, hm⟩ := op_turns (nI (ns 0)) (nI (ns 1)) (nI (ns 2)) v g hV
    refine ⟨r, v', g', h1, h2, fun σ hC hO => ?_, fun σ b hM hb hR => ?_⟩
    · obtain ⟨o1, o2, -⟩ := hO
      have a4 : σ 269 4 = nI 117 := o1
      have n0 : σ 271 0 = nI (ns 0) := o2 (show (117 : Nat) ≠ 107 by decide) 3 rfl 0 (by omega)
      have n1 : σ 271 1 = nI (ns 1) := o2 (show (117 : Nat) ≠ 107 by decide) 3 rfl 1 (by omega)
      have n2 : σ 271 2 = nI (ns 2) := o2 (show (117 : Nat) ≠ 107 by decide) 3 rfl 2 (by omega)
      obtain ⟨σ', e, c1, c2⟩ := hc σ hC
      rw [f_X5_doOrder, if_pos kd_0, rf_0_2, a4, if_neg (show ¬ nI 117 = 100 by decide), if_neg (show ¬ nI 117 = 101 by decide), if_neg (show ¬ nI 117 = 102 by decide), if_neg (show ¬ nI 117 = 103 by decide), if_neg (show ¬ nI 117 = 104 by decide), if_neg (show ¬ nI 117 = 105 by decide), if_neg (show ¬ nI 117 = 106 by decide), if_neg (show ¬ nI 117 = 107 by decide), if_neg (show ¬ nI 117 = 108 by decide), if_neg (show ¬ nI 117 = 109 by decide), if_neg (show ¬ nI 117 = 110 by decide), if_neg (show ¬ nI 117 = 111 by decide), if_neg (show ¬ nI 117 = 112 by decide), if_neg (show ¬ nI 117 = 113 by decide), if_neg (show ¬ nI 117 = 114 by decide), if_neg (show ¬ nI 117 = 115 by decide), if_neg (show ¬ nI 117 = 116 by decide), if_pos (show nI 117 = 117 from rfl), if_pos (show inb 0 3 = true by decide), if_pos (show inb 1 3 = true by decide), if_pos (show inb 2 3 = true by decide), rf_0_0, rf_269_5, show ix 0 = 0 from rfl, show ix 1 = 1 from rfl, show ix 2 = 2 from rfl, n0, n1, n2, e, cb_some]
      exact ⟨σ', rfl, c1, c2⟩
    · obtain ⟨o1, o2, -⟩ := hR
      have a4 : σ 306 b = nI 117 := o1
      have n0 : σ 306 (b + 1) = nI (ns 0) := o2 (show (117 : Nat) ≠ 107 by decide) 3 rfl 0 (by omega)
      have n1 : σ 306 (b + 2) = nI (ns 1) := o2 (show (117 : Nat) ≠ 107 by decide) 3 rfl 1 (by omega)
      have n2 : σ 306 (b + 3) = nI (ns 2) := o2 (show (117 : Nat) ≠ 107 by decide) 3 rfl 2 (by omega)
      obtain ⟨σ', e, c1, c2⟩ := hm σ hM
      rw [d1M hb, a4, if_neg (show ¬ nI 117 = 100 by decide), if_neg (show ¬ nI 117 = 103 by decide), if_neg (show ¬ nI 117 = 112 by decide), if_pos (show nI 117 = 117 from rfl), n0, n1, n2, e, cb_some]
      exact ⟨σ', rfl, c1, c2⟩
  · obtain ⟨r, v', g', h1, h2, hc, hm⟩ := op_wants (nI (ns 0)) (nI (ns 1)) (nI (ns 2)) v g hV
    refine ⟨r, v', g', h1, h2, fun σ hC hO => ?_, fun σ b hM hb hR => ?_⟩
    · obtain ⟨o1, o2, -⟩ := hO
      have a4 : σ 269 4 = nI 119 := o1
      have n0 : σ 271 0 = nI (ns 0) := o2 (show (119 : Nat) ≠ 107 by decide) 3 rfl 0 (by omega)
      have n1 : σ 271 1 = nI (ns 1) := o2 (show (119 : Nat) ≠ 107 by decide) 3 rfl 1 (by omega)
      have n2 : σ 271 2 = nI (ns 2) := o2 (show (119 : Nat) ≠ 107 by decide) 3 rfl 2 (by omega)
      obtain ⟨σ', e, c1, c2⟩ := hc σ hC
      rw [f_X5_doOrder, if_pos kd_0, rf_0_2, a4, if_neg (show ¬ nI 119 = 100 by decide), if_neg (show ¬ nI 119 = 101 by decide), if_neg (show ¬ nI 119 = 102 by decide), if_neg (show ¬ nI 119 = 103 by decide), if_neg (show ¬ nI 119 = 104 by decide), if_neg (show ¬ nI 119 = 105 by decide), if_neg (show ¬ nI 119 = 106 by decide), if_neg (show ¬ nI 119 = 107 by decide), if_neg (show ¬ nI 119 = 108 by decide), if_neg (show ¬ nI 119 = 109 by decide), if_neg (show ¬ nI 119 = 110 by decide), if_neg (show ¬ nI 119 = 111 by decide), if_neg (show ¬ nI 119 = 112 by decide), if_neg (show ¬ nI 119 = 113 by decide), if_neg (show ¬ nI 119 = 114 by decide), if_neg (show ¬ nI 119 = 115 by decide), if_neg (show ¬ nI 119 = 116 by decide), if_neg (show ¬ nI 119 = 117 by decide), if_neg (show ¬ nI 119 = 118 by decide), if_pos (show nI 119 = 119 from rfl), if_pos (show inb 0 3 = true by decide), if_pos (show inb 1 3 = true by decide), if_pos (show inb 2 3 = true by decide), rf_0_0, rf_269_5, show ix 0 = 0 from rfl, show ix 1 = 1 from rfl, show ix 2 = 2 from rfl, n0, n1, n2, e, cb_some]
      exact ⟨σ', rfl, c1, c2⟩
    · obtain ⟨o1, o2, -⟩ := hR
      have a4 : σ 306 b = nI 119 := o1
      have n0 : σ 306 (b + 1) = nI (ns 0) := o2 (show (119 : Nat) ≠ 107 by decide) 3 rfl 0 (by omega)
      have n1 : σ 306 (b + 2) = nI (ns 1) := o2 (show (119 : Nat) ≠ 107 by decide) 3 rfl 1 (by omega)
      have n2 : σ 306 (b + 3) = nI (ns 2) := o2 (show (119 : Nat) ≠ 107 by decide) 3 rfl 2 (by omega)
      obtain ⟨σ', e, c1, c2⟩ := hm σ hM
      rw [d1M hb, a4, if_neg (show ¬ nI 119 = 100 by decide), if_neg (show ¬ nI 119 = 103 by decide), if_neg (show ¬ nI 119 = 112 by decide), if_neg (show ¬ nI 119 = 117 by decide), if_pos (show nI 119 = 119 from rfl), n0, n1, n2, e, cb_some]
      exact ⟨σ', rfl, c1, c2⟩
