/-! ===== the property: isAhead ===== -/
theorem q_court0 {Q : Int → Prop} {sB ρ : jx_St} {k : Int} (k0 : 0 ≤ k) (hr : ρ 8 0 ≤ 32) (hk : k < ρ 8 0) (h : Q (ρ 6 k)) : wp_B_court Q sB ρ k 0 := q_court k0 hr hk (by decide) (by rw [if_pos rfl]; exact h)
theorem q_court1 {Q : Int → Prop} {sB ρ : jx_St} {k : Int} (k0 : 0 ≤ k) (hr : ρ 8 0 ≤ 32) (hk : k < ρ 8 0) (h : Q (ρ 7 k)) : wp_B_court Q sB ρ k 1 := q_court k0 hr hk (by decide) (by rw [if_neg (by decide)]; exact h)
theorem aV_0 {σ : jx_St} (hI : Inv σ) : aV σ 0 = ps (cN σ) (row σ 0) := by
  have := hI.1.1.1.2
  unfold aV
  rw [if_neg (by decide), if_pos (by omega)]
theorem BR.obs {μ σ1 σ2 ρ1 ρ2 τ1 τ2 : jx_St} {b v : Int} (h1 : BR μ σ1 b v ρ1 τ1) (h2 : BR μ σ2 b v ρ2 τ2) : ρ1 8 0 = ρ2 8 0 ∧ τ1 2 (τ1 7 0) = τ2 2 (τ2 7 0) ∧ ps (cN τ1) (row τ1 0) = ps (cN τ2) (row τ2 0) := by
  obtain ⟨e, μ', a1, a2⟩ := h1.same h2
  exact ⟨e, same_obs h1.1 h2.1 a1 a2⟩
theorem TR.obs {μ σ1 σ2 ρ1 ρ2 τ1 τ2 : jx_St} {b : Int} (h1 : TR μ σ1 b ρ1 τ1) (h2 : TR μ σ2 b ρ2 τ2) : ρ1 8 0 = ρ2 8 0 ∧ τ1 10 0 = τ2 10 0 ∧ τ1 2 (τ1 7 0) = τ2 2 (τ2 7 0) ∧ ps (cN τ1) (row τ1 0) = ps (cN τ2) (row τ2 0) := by
  obtain ⟨e, e', μ', a1, a2⟩ := h1.same h2
  exact ⟨e, e', same_obs h1.1 h2.1 a1 a2⟩
theorem a_395 {Q : Int → jx_St → jx_St → jx_St → jx_St → jx_St → jx_St → jx_St → jx_St → jx_St → jx_St → jx_St → Prop} {β ρ ψ σ τ ω ν υ η h0 h1 h2 h3 ο : jx_St} {l1 l2 l3 l4 t : Int} (hI : Inv σ) (hτ : Inv τ) (hH : HI η h0 h1 h2 h3) (hn : 1 ≤ η 2 0) (hE : Er σ (tpS η h0 h1 h2 h3)) (hb : nb t) (ht : τ 0 t ≠ -1) (h : ∀ ρ' ψ' σ' ω' ν' υ' η' t0 t1 t2 t3, Inv σ' → (0 ≤ ρ' 8 0 ∧ ρ' 8 0 ≤ 32) → HI η' t0 t1 t2 t3 → Q 1 ρ' ψ' σ' ω' ν' υ' η' t0 t1 t2 t3) : wp_L_isAhead_395 Q β ο l1 l2 l3 l4 ρ ψ τ ω ν υ η h0 h1 h2 h3 (prV σ) t 1 := by
  refine q_wtake hτ hb (by decide) ht (fun ρa ψa τa ga => ⟨fun _ => ?_, fun z => absurd z (by decide), fun z => absurd z (by decide), fun z => absurd z (by decide)⟩)
  refine q_wtake hτ hb (by decide) ht (fun ρb ψb τb gb => ⟨fun z => absurd z (by decide), fun z => absurd z (by decide), fun _ => ?_, fun z => absurd z (by decide)⟩)
  refine q_wtake hτ hb (by decide) ht (fun ρc ψc τc gc => ⟨fun z => absurd z (by decide), fun z => absurd z (by decide), fun z => absurd z (by decide), fun _ ψc' => ?_⟩)
  refine q_wtake hτ hb (by decide) ht (fun ρd ψd τd gd => ⟨fun z => absurd z (by decide), fun _ => ?_, fun z => absurd z (by decide), fun z => absurd z (by decide)⟩)
  obtain ⟨_, ga⟩ := ga
  obtain ⟨_, gb⟩ := gb
  obtain ⟨_, gc⟩ := gc
  obtain ⟨_, gd⟩ := gd
  refine q_count hτ (R_lit 7 (by decide)) (fun ψ1 => c1 (q_take hτ hH hb ht (fun ρ' ψ' σ3 η' t0 t1 t2 t3 g hR => ?_)))
  obtain ⟨oa1, oa2, oa3, oa4⟩ := g.obs ga
  obtain ⟨ob1, ob2, ob3, ob4⟩ := g.obs gb
  obtain ⟨oc1, oc2, oc3, oc4⟩ := g.obs gc
  obtain ⟨od1, od2, od3, od4⟩ := g.obs gd
  obtain ⟨hH', hc, hE', hs⟩ := hR
  have hI3 := g.1
  refine ce (by omega) (q_count hI3 (R_lit 7 (by decide)) (fun ψ2 => ce (show σ3 10 0 = τ 10 0 + (τa 10 0 - τ 10 0) by omega) (q_count hI3 (R_lit 4 (by decide)) (fun ψ3 => ce (show ρ' 8 0 = ρd 8 0 from od1) (q_overlaps hI3 (R_lit 0 (by decide)) (fun ψ4 => ce ((aV_0 hI3).trans oc4) (q_isTree hI3 (fun ψ5 => c1 ?_))))))))
  have hn' : 2 ≤ η' 2 0 := by
    rw [hc]
    split <;> omega
  have hn4 := hH'.2.1.2
  obtain ⟨hl1, hl2⟩ := hH'.less (by omega)
  have e2 : jx_su η' 2 0 (η' 2 0 - 1) 2 0 = η' 2 0 - 1 := jx_su_eq
  refine q_undo hH' (by omega) (fun σ4 hE4 => ⟨jx_inR (by omega) (by omega), fun z => absurd z (by omega), fun _ => q_undo hl1 (by omega) (fun σ5 hE5 => ⟨jx_inR (by omega) (by omega), fun z => absurd z (by omega), fun _ => ?_⟩)⟩)
  rw [hl2, hs hn] at hE5
  have hE6 := hE.trans hE5
  have hI5 := inv_er hI hE6
  refine q_print hI5 (fun ψ6 => ?_)
  rw [er_prV hI hE6, lc_same]
  refine c0 (q_count hI5 (R_lit 4 (by decide)) (fun ψ7 => ce (show ρ' 8 0 = ρd 8 0 from od1) (h _ _ _ _ _ _ _ _ _ _ _ hI5 g.2.2.1 ?_)))
  exact (hl1.less (by omega)).1
theorem a_285 {Q : Int → jx_St → jx_St → jx_St → jx_St → jx_St → jx_St → jx_St → jx_St → jx_St → jx_St → jx_St → Prop} {β ρ ψ τ ω ν υ η h0 h1 h2 h3 ο : jx_St} {l1 l2 l3 l4 t lC lH : Int} {L : Int64} (hτ : Inv τ) (hq : CQ ρ τ) (hr : 0 ≤ ρ 8 0 ∧ ρ 8 0 ≤ 4) (hC : lC = ρ 8 0) (hL : lH = τ 2 (τ 7 0) + 1) (h : wp_L_isAhead_395 Q β ο l1 l2 l3 l4 ρ ψ τ ω ν υ η h0 h1 h2 h3 L t 1) : wp_L_isAhead_285 Q β ο l1 l2 l3 l4 ρ ψ τ ω ν υ η h0 h1 h2 h3 L t lC lH 1 := by
  subst hC
  subst hL
  have l0 := hτ.1.1.1.2
  have l3' := hτ.1.1.2.1
  refine jx_loop (fun v => v.1 = 1 ∧ 0 ≤ v.2 ∧ v.2 ≤ ρ 8 0) (fun v => (ρ 8 0 - v.2).toNat) (fun B v hJ hB => ?_) ⟨rfl, Int.le_refl _, hr.1⟩
  obtain ⟨is, k⟩ := v
  obtain ⟨j1, j2, j3⟩ := hJ
  dsimp only at j1 j2 j3
  subst j1
  refine ⟨jx_inR (by omega) (by omega), jx_inR (by omega) (by omega), fun c => c1 ?_, fun c => h⟩
  obtain ⟨⟨q1, q2, q3⟩, ⟨q4, q4'⟩, _, q5⟩ := hq k j2 c
  have R6 : jx_R (ρ 6 k) := jx_inR (by omega) (by omega)
  have n6 : ¬ ρ 6 k < 0 := by omega
  have R7 : jx_R (ρ 7 k) := jx_inR (by omega) (by omega)
  have n7 : ¬ ρ 7 k < 2 := by omega
  have r32 : ρ 8 0 ≤ 32 := by omega
  refine q_court0 j2 r32 c ⟨R6, fun z => absurd z n6, fun _ => q_court0 j2 r32 c ⟨R6, jx_inR (by omega) (by omega), fun _ => q_court1 j2 r32 c ⟨R7, fun z => absurd z n7, fun _ => ?_⟩, fun z => absurd (show ρ 6 k < τ 2 (τ 7 0) + 1 - 1 by omega) z⟩⟩
  refine jx_loop (fun v => v.1 = 1 ∧ 0 ≤ v.2 ∧ v.2 ≤ k) (fun v => (k - v.2).toNat) (fun B' v hJ hB' => ?_) ⟨rfl, Int.le_refl _, j2⟩
  obtain ⟨is', i⟩ := v
  obtain ⟨i1, i2, i3⟩ := hJ
  dsimp only at i1 i2 i3
  subst i1
  refine ⟨jx_inR (by omega) (by omega), jx_inR (by omega) (by omega), fun d => c1 ?_, fun d => hB _ ⟨rfl, by dsimp only; omega, by dsimp only; omega⟩ (by dsimp only; omega)⟩
  obtain ⟨⟨p1, p2, p3⟩, _, _, _⟩ := hq i i2 (by omega)
  have R6' : jx_R (ρ 6 i) := jx_inR (by omega) (by omega)
  refine q_court0 i2 r32 (by omega) (q_court0 j2 r32 c ⟨Or.inl ⟨R6', R6⟩, fun e => absurd e (q5 i i2 d), fun _ => hB' _ ⟨rfl, by dsimp only; omega, by dsimp only; omega⟩ (by dsimp only; omega)⟩)
theorem q_isAhead {Q : Int → jx_St → jx_St → jx_St → jx_St → jx_St → jx_St → jx_St → jx_St → jx_St → jx_St → jx_St → Prop} {β ρ ψ σ ω ν υ η h0 h1 h2 h3 ο : jx_St} {x y wide high : Int} (hI : Inv σ) (hr : 0 ≤ ρ 8 0 ∧ ρ 8 0 ≤ 32) (hH : HI η h0 h1 h2 h3) (hx : 0 ≤ x ∧ x ≤ 99) (hy : 0 ≤ y ∧ y ≤ 99) (hw : 0 ≤ wide ∧ wide ≤ 1000) (hh : 0 ≤ high ∧ high ≤ 1000) (h : ∀ ρ' ψ' σ' ω' ν' υ' η' t0 t1 t2 t3, Inv σ' → (0 ≤ ρ' 8 0 ∧ ρ' 8 0 ≤ 32) → HI η' t0 t1 t2 t3 → Q 1 ρ' ψ' σ' ω' ν' υ' η' t0 t1 t2 t3) : wp_L_isAhead Q β ρ ψ σ ω ν υ η h0 h1 h2 h3 ο x y wide high := by
  refine q_print hI (fun ψ1 => q_lesser (R_lit _ (by decide)) (jx_inR (by omega) (by omega)) (q_lesser (R_lit _ (by decide)) (jx_inR (by omega) (by omega)) ?_))
  have hW : Wn x y (min 99 (x + wide)) (min 99 (y + high)) := ⟨hx.1, hy.1, by omega, by omega, by omega, by omega⟩
  generalize min 99 (x + wide) = c at hW
  generalize min 99 (y + high) = d at hW
  refine jx_loop (fun v => 0 ≤ v.2 ∧ v.2 ≤ 31 ∧ ∀ b, 0 ≤ b → b < v.2 → σ 0 b ≠ -1) (fun v => (31 - v.2).toNat) (fun B v hJ hB => ?_) ⟨Int.le_refl _, by show (0 : Int) ≤ 31; decide, fun b b0 b1 => by dsimp only at b1; omega⟩
  obtain ⟨ψ2, t⟩ := v
  obtain ⟨j1, j2, j3⟩ := hJ
  dsimp only at j1 j2 j3
  have hend : ∀ ψ', frN σ t → wp_L_isAhead_55 Q β ο x y wide high ρ ψ' σ ω ν υ η h0 h1 h2 h3 (prV σ) c d t := by
    intro ψ' hf
    refine ⟨Or.inl ⟨jx_inR (by omega) (by omega), R_lit 31 (by decide)⟩, fun e => ?_, fun e => ?_⟩
    · exact q_would_full hI hW (by decide) (fun b hb => j3 b hb.1 (by have := hb.2; omega)) (ce rfl (h _ _ _ _ _ _ _ _ _ _ _ hI hr hH))
    · have t1 : t < 31 := by omega
      have hb : nb t := ⟨j1, t1⟩
      have hn := hf.2.2 t1
      have hv := vb_bo hW
      generalize hvv : bo x y c d = v at hv
      refine q_would hI hW (by decide) hf t1 (fun _ ψ3 => ?_) (fun z => absurd z (by decide)) (fun ρ1 ψ1 τ1 g1 => ⟨fun z => absurd z (by decide), fun z => absurd z (by decide), fun z => absurd z (by decide)⟩)
      refine q_would hI hW (by decide) hf t1 (fun z => absurd z (by decide)) (fun _ => ?_) (fun ρ1 ψ1 τ1 g1 => ⟨fun z => absurd z (by decide), fun z => absurd z (by decide), fun z => absurd z (by decide)⟩)
      refine q_would hI hW (by decide) hf t1 (fun z => absurd z (by decide)) (fun z => absurd z (by decide)) (fun ρa ψa τa ga => ⟨fun _ => ?_, fun z => absurd z (by decide), fun z => absurd z (by decide)⟩)
      refine q_would hI hW (by decide) hf t1 (fun z => absurd z (by decide)) (fun z => absurd z (by decide)) (fun ρb ψb τb gb => ⟨fun z => absurd z (by decide), fun _ => ?_, fun z => absurd z (by decide)⟩)
      refine q_would hI hW (by decide) hf t1 (fun z => absurd z (by decide)) (fun z => absurd z (by decide)) (fun ρc ψc τc gc => ⟨fun z => absurd z (by decide), fun z => absurd z (by decide), fun _ ψc' => ?_⟩)
      obtain ⟨_, ga⟩ := ga
      obtain ⟨_, gb⟩ := gb
      obtain ⟨_, gc⟩ := gc
      rw [hvv] at ga gb gc ⊢
      have h1z : ∀ z, lvn σ z → 0 < σ 2 z → 1 ≤ σ 3 z := fun z hz z0 => ((hI.1.2.2.2.1 z hz).2.2.resolve_left List.not_mem_nil).2 z0
      have l3' := hI.1.1.2.1
      obtain ⟨n1, n2⟩ := dsc_ok (b := v) hI.1.sh h1z (Int.le_refl 0) 8 (σ 7 0) hI.1.1.1 hI.1.1.1.2 (by show σ 2 (σ 7 0) - 0 ≤ 8; omega)
      have hp := pl_at hI.1 n1
      rw [n2] at hp
      have s4 := hI.2.2.1 _ n1
      have s5 := hI.1.sh.1 _ n1
      have hbd := pl_bd hI.1 n1
      have ean := aN_some (σ := σ) (Int.le_refl 0) hp.1 hp.2
      have goal : ∀ ψ' (f : Int), f = (if σ 3 (dsc σ v 0 8 (σ 7 0)) < 4 then 0 else 1) → wp_L_isAhead_183 Q β ο x y wide high ρ ψ' σ ρc ψc' τc η h0 h1 h2 h3 (prV σ) c d t (pl σ (dsc σ v 0 8 (σ 7 0))) f (ρa 8 0) (τb 2 (τb 7 0) + 1) (ps (cN τc) (row τc 0)) (σ 8 0) (σ 9 0) f (if σ 3 (dsc σ v 0 8 (σ 7 0)) < 4 then 0 else 1) := by
        intro ψ' f hff
        refine ce hff (q_put hI hH hb hW hn (fun ρ' ψ3 τ η' t0 t1 t2 t3 g gE hR => ?_))
        rw [hvv] at g gE
        obtain ⟨oa1, oa2, oa3⟩ := g.obs ga
        obtain ⟨ob1, ob2, ob3⟩ := g.obs gb
        obtain ⟨oc1, oc2, oc3⟩ := g.obs gc
        obtain ⟨hH', hc, hE', hs⟩ := hR
        have hτ := g.1
        have hτ0 : τ 0 t = v := by rw [g.2.1]; exact jx_su_eq
        have hτn : τ 0 t ≠ -1 := by rw [hτ0]; have := hv.1; omega
        have hn' : 1 ≤ η' 2 0 := by
          have := hH.2.1
          rw [hc]
          split <;> omega
        have fin : ∀ ψ'', wp_L_isAhead_280 Q β ο x y wide high ρ' ψ'' τ ρc ψc' τc η' t0 t1 t2 t3 (prV σ) t (ρa 8 0) (τb 2 (τb 7 0) + 1) := fun ψ'' =>
          a_285 hτ g.2.2.2.2.2.1 g.2.2.2.1 oa1.symm (by omega) (a_395 hI hτ hH' hn' hE' hb hτn h)
        refine ce (by omega) (q_count hτ (R_lit 1 (by decide)) (fun ψ4 => ce (show τ 2 (τ 7 0) + 1 = _ by omega) (q_count hτ (R_lit 4 (by decide)) (fun ψ5 => ce (show ρ' 8 0 = ρa 8 0 from oa1) (q_count hτ (R_lit 5 (by decide)) (fun ψ6 => ce (show τ 8 0 = σ 8 0 + ρa 8 0 by have := g.2.2.2.2.1; omega) (q_overlaps hτ (R_lit 0 (by decide)) (fun ψ7 => ce ((aV_0 hτ).trans oc3) ?_))))))))
        by_cases q : σ 3 (dsc σ v 0 8 (σ 7 0)) < 4
        · rw [if_pos q] at hff
          subst hff
          obtain ⟨z1, z2, z3, z4, z5, z6⟩ := gE q
          have er := ez_row hI ⟨z1, z2, z3, z4, z5, z6⟩ 0 (Int.le_refl 0)
          refine ⟨Or.inl ⟨R_lit 0 (by decide), R_lit 1 (by decide)⟩, fun z => absurd z (by decide), fun _ => ⟨by rw [← oa1, z1]; exact R_lit 0 (by decide), fun _ => ?_, fun z => absurd (oa1.symm.trans z1) z⟩⟩
          refine q_count hτ (R_lit 6 (by decide)) (fun ψ8 => ce (show τ 9 0 = σ 9 0 by rw [z2]) (q_boxOf hτ hb.R (R_lit 4 (by decide)) (fun ψ9 => ce ?_ (fin _))))
          unfold aB
          rw [if_neg (by omega), if_neg hτn, if_pos rfl, z5]
          unfold pl
          rw [z4, n2, er]
        · rw [if_neg q] at hff
          subst hff
          exact ce rfl (fin _)
      refine q_count hI (R_lit 5 (by decide)) (fun ψ4 => q_count hI (R_lit 6 (by decide)) (fun ψ5 => q_nodeOf hI (R_lit 0 (by decide)) (jx_inR (by omega) (by omega)) (R_lit 4 (by decide)) (fun ψ6 => ?_)))
      rw [ean]
      refine ⟨Or.inl ⟨jx_inR (by omega) (by omega), R_lit 4 (by decide)⟩, fun e4 => ?_, fun e4 => ?_⟩
      · have := goal ψ6 _ rfl
        rw [if_neg (by omega)] at this ⊢
        exact this
      · have := goal ψ6 _ rfl
        rw [if_pos (by omega)] at this ⊢
        exact this
  refine ⟨jx_inR (by omega) (by omega), fun q => ?_, fun q => hend ψ2 ⟨⟨j1, j2⟩, j3, fun z => absurd z q⟩⟩
  have hb : nb t := ⟨j1, q⟩
  by_cases e : σ 0 t = -1
  · exact q_boxOf hI hb.R (R_lit 0 (by decide)) (fun ψ' => ce ((aB_0 hb).mpr e) (hend ψ' ⟨⟨j1, j2⟩, j3, fun _ => e⟩))
  · refine q_boxOf hI hb.R (R_lit 0 (by decide)) (fun ψ' => ⟨?_, fun z => absurd ((aB_0 hb).mp z) e, fun _ => hB _ ⟨by dsimp only; omega, by dsimp only; omega, fun b b0 b1 => ?_⟩ (by dsimp only; omega)⟩)
    · rw [aB_side hb e (Int.le_refl 0) (by decide)]
      exact Or.inl ⟨bs_R _ _, R_lit _ (by decide)⟩
    · dsimp only at b1
      by_cases z : b = t
      · rw [z]; exact e
      · exact j3 b b0 (by omega)
