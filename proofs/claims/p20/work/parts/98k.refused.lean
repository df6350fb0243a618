/-! ===== the property: calls that are refused ===== -/
theorem ce {r a : Int} {X Y : Prop} (e : r = a) (h : Y) : jx_eo r a ∧ ((r = a → Y) ∧ (¬ r = a → X)) := ⟨Or.inr e, fun _ => h, fun z => absurd e z⟩
theorem lc_same (v : Int64) : jx_lc v v = 0 := by
  unfold jx_lc lg_cmp
  rw [if_neg (by simp)]
  rw [if_pos (by simp)]
  rfl
theorem q_window_bad {Q : Int → jx_St → Prop} {sB sS σ : jx_St} {x y z w k : Int} (hn : ¬ (Wn x y z w ∧ 0 ≤ k ∧ k ≤ 1)) (rx : jx_R x) (ry : jx_R y) (rz : jx_R z) (rw' : jx_R w) (rk : jx_R k) (h : Q (-1000001) sS) : wp_B_window Q sB sS σ x y z w k := by
  by_cases c : Wn x y z w
  · exact p_isWindow_t c (c1 (p_upTo_f (fun e => hn ⟨c, e⟩) rk (R_lit 1 (by decide)) (c0 h)))
  · exact p_isWindow_f c rx ry rz rw' (c0 h)
theorem q_nearest_bad {Q : Int → jx_St → jx_St → Prop} {sB sS σ : jx_St} {x y n k : Int} (hn : ¬ ((0 ≤ x ∧ x ≤ 99) ∧ (0 ≤ y ∧ y ≤ 99) ∧ 0 ≤ n ∧ 0 ≤ k ∧ k ≤ 2)) (rx : jx_R x) (ry : jx_R y) (rn : jx_R n) (rk : jx_R k) (h : Q (-1000001) sB sS) : wp_B_nearest Q sB sS σ x y n k := by
  by_cases c1' : 0 ≤ x ∧ x ≤ 99
  · refine p_isPoint_t c1' (c1 ?_)
    by_cases c2 : 0 ≤ y ∧ y ≤ 99
    · refine p_isPoint_t c2 (c1 ⟨rn, fun _ => h, fun z => ?_⟩)
      exact p_upTo_f (fun e => hn ⟨c1', c2, by omega, e⟩) rk (R_lit 2 (by decide)) (c0 h)
    · exact p_isPoint_f c2 ry (c0 h)
  · exact p_isPoint_f c1' rx (c0 h)
theorem aB_bad {σ : jx_St} {b k : Int} (h : b < 0 ∨ 31 ≤ b ∨ k < 0 ∨ 5 < k) : aB σ b k = -1000001 := if_pos h
theorem aN_bad {σ : jx_St} {l p k : Int} (h : l < 0 ∨ p < 0 ∨ k < 0 ∨ 5 < k) : aN σ l p k = -1000001 := if_pos h
theorem aB_no {σ : jx_St} {b k : Int} (hb : nb b) (hk : 0 ≤ k ∧ k ≤ 5) (hn : σ 0 b = -1) : aB σ b k = -1000004 := by
  have := hb.1; have := hb.2
  unfold aB
  rw [if_neg (by omega), if_pos hn]
theorem aB_0 {σ : jx_St} {b : Int} (hb : nb b) : aB σ b 0 = -1000004 ↔ σ 0 b = -1 := by
  constructor
  · intro h
    apply Classical.byContradiction
    intro hn
    rw [aB_side hb hn (Int.le_refl 0) (by decide)] at h
    have := bs_ge (σ 0 b) 0
    omega
  · intro h; exact aB_no hb ⟨Int.le_refl 0, by decide⟩ h
theorem q_refused {Q : Int → jx_St → jx_St → jx_St → jx_St → jx_St → jx_St → jx_St → jx_St → jx_St → jx_St → jx_St → jx_St → jx_St → Prop} {β ρ ψ σ ω ν υ η h0 h1 h2 h3 ο : jx_St} {b : Int} (hI : Inv σ) (r0 : 0 ≤ ρ 8 0) (r1 : ρ 8 0 ≤ 32) (hb : nb b) (h : ∀ β' ψ' ω' ν' υ', Q 1 β' ρ ψ' σ ω' ν' υ' η h0 h1 h2 h3 ο) : wp_L_refused Q β ρ ψ σ ω ν υ η h0 h1 h2 h3 ο b := by
  have bR := hb.R
  have b0 := hb.1
  have b1 := hb.2
  have l0 := hI.1.1.1.2
  have l3 := hI.1.1.2.1
  have lR : jx_R (σ 2 (σ 7 0) + 1) := jx_inR (by omega) (by omega)
  have rR : jx_R (ρ 8 0) := jx_inR (by omega) (by omega)
  have n0 : nb 0 := ⟨Int.le_refl 0, by decide⟩
  have n31 : ¬ nb 31 := fun z => absurd z.2 (by decide)
  have nm1 : ¬ nb (-1) := fun z => absurd z.1 (by decide)
  have w1 : Wn 0 0 1 1 := ⟨by decide, by decide, by decide, by decide, by decide, by decide⟩
  have nx := nBx_bd hI
  have nxR : jx_R (nBx σ) := jx_inR (by omega) (by omega)
  have e0 : aK ρ σ η ο 0 = nBx σ := rfl
  have e1 : aK ρ σ η ο 1 = σ 2 (σ 7 0) + 1 := rfl
  have e3 : aK ρ σ η ο 3 = ((row σ 0).length : Int) := (show aK ρ σ η ο 3 = smL (gD σ (gLe σ)) nds from rfl).trans (leaves_row hI)
  have rl := row_len hI.1 0
  have e3R : jx_R ((row σ 0).length : Int) := jx_inR (by omega) (by omega)
  have e11 : aK ρ σ η ο 11 = -1000001 := rfl
  have e4 : aK ρ σ η ο 4 = ρ 8 0 := rfl
  refine q_print hI (fun ψ1 => q_count hI (R_lit 8 (by decide)) (fun ψ2 => q_count hI (R_lit 4 (by decide)) (fun ψ3 => q_count hI (R_lit 1 (by decide)) (fun ψ4 => ?_))))
  rw [e1, e4]
  refine q_put_bad (fun z => n31 z.1) (R_lit _ (by decide)) (R_lit _ (by decide)) (R_lit _ (by decide)) (R_lit _ (by decide)) (R_lit _ (by decide)) (ce rfl ?_)
  refine q_put_bad (fun z => nm1 z.1) (R_lit _ (by decide)) (R_lit _ (by decide)) (R_lit _ (by decide)) (R_lit _ (by decide)) (R_lit _ (by decide)) (ce rfl ?_)
  refine q_put_bad (fun z => absurd z.2.2.2.1 (by decide)) bR (R_lit _ (by decide)) (R_lit _ (by decide)) (R_lit _ (by decide)) (R_lit _ (by decide)) (ce rfl ?_)
  refine q_put_bad (fun z => absurd z.2.2.2.2.1 (by decide)) bR (R_lit _ (by decide)) (R_lit _ (by decide)) (R_lit _ (by decide)) (R_lit _ (by decide)) (ce rfl ?_)
  refine q_put_bad (fun z => absurd z.2.2.2.2.2.1 (by decide)) bR (R_lit _ (by decide)) (R_lit _ (by decide)) (R_lit _ (by decide)) (R_lit _ (by decide)) (ce rfl ?_)
  refine q_put_bad (fun z => absurd z.2.1 (by decide)) bR (R_lit _ (by decide)) (R_lit _ (by decide)) (R_lit _ (by decide)) (R_lit _ (by decide)) (ce rfl ?_)
  refine q_take_bad n31 (R_lit _ (by decide)) (ce rfl ?_)
  refine q_boxOf hI (R_lit _ (by decide)) (R_lit _ (by decide)) (fun ψ5 => ce (aB_bad (by decide)) ?_)
  refine q_boxOf hI bR (R_lit _ (by decide)) (fun ψ6 => ce (aB_bad (Or.inr (Or.inr (Or.inr (by decide))))) ?_)
  refine q_nodeOf hI (R_lit _ (by decide)) (R_lit _ (by decide)) (R_lit _ (by decide)) (fun ψ7 => ce (aN_bad (by decide)) ?_)
  refine q_nodeOf hI (R_lit _ (by decide)) (R_lit _ (by decide)) (R_lit _ (by decide)) (fun ψ8 => ce (aN_bad (by decide)) ?_)
  refine q_nodeOf hI (R_lit _ (by decide)) (R_lit _ (by decide)) (R_lit _ (by decide)) (fun ψ9 => ce (aN_bad (by decide)) ?_)
  refine q_nodeOf hI lR (R_lit _ (by decide)) (R_lit _ (by decide)) (fun ψa => ce (aN_none (by omega) (Int.le_refl 0) (by decide) (by rw [row_out (by omega)]; exact Nat.zero_le _)) ?_)
  refine q_count hI (R_lit 3 (by decide)) (fun ψb => ?_)
  rw [e3]
  refine q_nodeOf hI (R_lit _ (by decide)) e3R (R_lit _ (by decide)) (fun ψc => ce (aN_none (Int.le_refl 0) (by omega) (by decide) (by omega)) ?_)
  refine q_overlaps hI (R_lit _ (by decide)) (fun ψd => ce (show aV σ (-1) = -1000001 from if_pos (by decide)) ?_)
  refine q_overlaps hI lR (fun ψe => ce (show aV σ (σ 2 (σ 7 0) + 1) = -1000004 by unfold aV; rw [if_neg (by omega), if_neg (by omega)]) ?_)
  refine q_overlap_bad n0 n31 (R_lit _ (by decide)) (ce rfl ?_)
  refine q_court_bad (Or.inl (by decide)) (R_lit _ (by decide)) (R_lit _ (by decide)) (ce rfl ?_)
  refine q_court_bad (Or.inr (by decide)) (R_lit _ (by decide)) (R_lit _ (by decide)) (ce rfl ?_)
  refine q_court_no r0 rR rR (Int.le_refl _) (by decide) (ce rfl ?_)
  refine c1 ?_
  refine q_window_bad (fun z => absurd z.2.2 (by decide)) (R_lit _ (by decide)) (R_lit _ (by decide)) (R_lit _ (by decide)) (R_lit _ (by decide)) (R_lit _ (by decide)) (ce rfl ?_)
  refine q_window_bad (fun z => absurd z.1.2.2.1 (by decide)) (R_lit _ (by decide)) (R_lit _ (by decide)) (R_lit _ (by decide)) (R_lit _ (by decide)) (R_lit _ (by decide)) (ce rfl ?_)
  refine q_nearest_bad (fun z => absurd z.1.2 (by decide)) (R_lit _ (by decide)) (R_lit _ (by decide)) (R_lit _ (by decide)) (R_lit _ (by decide)) (ce rfl ?_)
  refine q_nearest_bad (fun z => absurd z.2.2.1 (by decide)) (R_lit _ (by decide)) (R_lit _ (by decide)) (R_lit _ (by decide)) (R_lit _ (by decide)) (ce rfl ?_)
  refine q_nearest_bad (fun z => absurd z.2.2.2.2 (by decide)) (R_lit _ (by decide)) (R_lit _ (by decide)) (R_lit _ (by decide)) (R_lit _ (by decide)) (ce rfl ?_)
  refine q_count hI (R_lit 0 (by decide)) (fun ψf => ?_)
  rw [e0]
  refine q_nearest_no hI (by decide) (by decide) (Int.le_refl _) nxR (by decide) (fun β' => ce rfl ?_)
  refine q_would_bad (fun z => absurd z.2.2 (by decide)) (R_lit _ (by decide)) (R_lit _ (by decide)) (R_lit _ (by decide)) (R_lit _ (by decide)) (R_lit _ (by decide)) (ce rfl ?_)
  refine q_would_bad (fun z => absurd z.1.2.2.1 (by decide)) (R_lit _ (by decide)) (R_lit _ (by decide)) (R_lit _ (by decide)) (R_lit _ (by decide)) (R_lit _ (by decide)) (ce rfl ?_)
  refine q_wtake_bad (fun z => nm1 z.1) (R_lit _ (by decide)) (R_lit _ (by decide)) (ce rfl ?_)
  refine q_wtake_bad (fun z => absurd z.2.2 (by decide)) bR (R_lit _ (by decide)) (ce rfl ?_)
  refine q_count hI (R_lit 11 (by decide)) (fun ψg => ce e11 ?_)
  refine q_type_bad (by decide) (R_lit _ (by decide)) (ce rfl ?_)
  refine q_fault_bad (by decide) (R_lit _ (by decide)) (ce rfl ?_)
  have fin : ∀ β' ψ' ω' ν' υ', wp_L_refused_551 Q b β' ρ ψ' σ ω' ν' υ' η h0 h1 h2 h3 ο (prV σ) (η 2 0) (ρ 8 0) 1 := fun β' ψ' ω' ν' υ' => by
    refine c1 (q_count hI (R_lit 8 (by decide)) (fun ψh => ce rfl (q_count hI (R_lit 4 (by decide)) (fun ψi => ce rfl (q_print hI (fun ψj => ?_))))))
    rw [lc_same]
    exact c0 (h _ _ _ _ _)
  by_cases hn : σ 0 b = -1
  · refine q_boxOf hI bR (R_lit _ (by decide)) (fun ψk => ce ((aB_0 hb).mpr hn) (c1 ?_))
    refine q_take_no hI hb hn (ce rfl ?_)
    refine q_wtake_no hI hb (by decide) hn (ce rfl ?_)
    refine q_overlap_no hI hb n0 hn (ce rfl ?_)
    exact fin _ _ _ _ _
  · refine q_boxOf hI bR (R_lit _ (by decide)) (fun ψk => ⟨?_, fun z => absurd ((aB_0 hb).mp z) hn, fun _ => c1 ?_⟩)
    · rw [aB_side hb hn (Int.le_refl 0) (by decide)]
      exact Or.inl ⟨bs_R _ _, R_lit _ (by decide)⟩
    · refine q_put_there hI hb w1 hn (ce rfl ?_)
      exact fin _ _ _ _ _
