/-! ===== the pure part: nearest, the whole of it ===== -/
theorem m_nearest_199 {Q : Int → jx_St → Prop} {K : Int → Prop} {σ μ : jx_St} {x y n w l5 d : Int} (hI : Inv σ) (hA : Ag σ μ) (hL : La σ μ) (hx : 0 ≤ x ∧ x ≤ 99) (hy : 0 ≤ y ∧ y ≤ 99) (dR : jx_R d) (h : K (smL (gD σ (gDi σ x y d)) nds)) : jx_lp (fun B v => wp_M_nearest_199 Q x y n w K μ l5 d B v.1 v.2) (0, 0) := by
  have hW := hI.1
  refine jx_loop (fun v => 0 ≤ v.2 ∧ v.2 ≤ 40 ∧ v.1 = smL (gD σ (gDi σ x y d)) (up v.2)) (fun v => (40 - v.2).toNat) (fun B v hJ hB => ?_) ⟨Int.le_refl _, by dsimp only; omega, rfl⟩
  obtain ⟨s, i⟩ := v
  obtain ⟨a1, a2, a3⟩ := hJ
  dsimp only at a1 a2 a3 ⊢
  refine ⟨jx_inR (by omega) (by omega), fun q => m_levelOf hA a1 q ?_, fun q => ?_⟩
  · by_cases c2 : i < 32
    · have hn : nd i := ⟨a1, c2⟩
      rw [if_pos c2]
      have nxt : ∀ t, t = gD σ (gDi σ x y d) i → B (s + t, i + 1) := fun t ht => hB _ ⟨by dsimp only; omega, by dsimp only; omega, by dsimp only; rw [up_in a1 c2, a3, ht]⟩ (by dsimp only; omega)
      refine ⟨lvR hW hn, fun z => nxt 0 (by unfold gD; rw [if_pos z]), fun z => ?_⟩
      have hl : lvn σ i := ⟨hn, by rcases hW.2.1 i hn with y | y; exact absurd y z; exact y.1⟩
      have s5 := hW.sh.1 i hl
      have db := diF_bd (σ 4 i) x y hx hy
      refine m_manyOf hA hl ⟨jx_inR (by omega) (by omega), fun y' => nxt 0 ?_, fun y' => m_distance hA (sdk_node hL hl (by omega)) (R_lit 1 (by decide)) hx hy ?_⟩
      · unfold gD gDi
        rw [if_neg z, if_pos (hull_0 hW hI.2.1 hl y')]
      · have hne : ¬ σ 4 i = -1 := by have := (vh_hull hW hI.2.1 hl (by omega)).1; omega
        rw [hv_1]
        refine ⟨jx_inR (by omega) (by omega), dR, fun x' => nxt 1 ?_, fun x' => nxt 0 ?_⟩
        · unfold gD gDi; rw [if_neg z, if_neg hne, if_pos x']
        · unfold gD gDi; rw [if_neg z, if_neg hne, if_neg x']
    · rw [if_neg c2]
      exact ⟨R_lit (-1) (by decide), fun _ => hB _ ⟨by dsimp only; omega, by dsimp only; omega, by dsimp only; rw [up_out (by omega), a3]; omega⟩ (by dsimp only; omega), fun z => absurd rfl z⟩
  · rw [a3, up_all (by omega)]; exact h
theorem step_nearest : st_nearest RRd := by
  intro sB sT sS sC sU sV sW sH sH0 sH1 sH2 sH3 sO sM a1 a2 a3 a4 hR r1 r2 r3 r4
  obtain ⟨hI, hA, h3⟩ := id hR.1
  have z0 := R_lit 0 (by decide)
  have z99 := R_lit 99 (by decide)
  have z2 := R_lit 2 (by decide)
  by_cases k1 : 0 ≤ a1 ∧ a1 ≤ 99
  · refine p_isPoint_t k1 (c1 ?_)
    by_cases k2 : 0 ≤ a2 ∧ a2 ≤ 99
    · refine p_isPoint_t k2 (c1 ⟨r3, fun q => ?_, fun q => ?_⟩)
      · exact m_in_t k1.1 k1.2 z0 z99 (c1 (m_in_t k2.1 k2.2 z0 z99 (c1 ⟨r3, fun _ => ⟨rfl, hR⟩, fun z => absurd q z⟩)))
      · by_cases k4 : 0 ≤ a4 ∧ a4 ≤ 2
        · refine p_upTo_t k4.1 k4.2 z2 (c1 (p_boxOfRank hI k1 k2 r3 (fun β t ht hs => ?_)))
          have goM : ∀ Q : Int → jx_St → Prop, wp_M_nearest_169 Q a1 a2 a3 a4 sM (if t < 31 then t else -1) → wp_M_nearest Q sM a1 a2 a3 a4 := fun Q hk =>
            m_in_t k1.1 k1.2 z0 z99 (c1 (m_in_t k2.1 k2.2 z0 z99 (c1 ⟨r3, fun z => absurd z q, fun _ => m_in_t k4.1 k4.2 z0 z2 (c1 (m_nearest_43 (K := fun w => wp_M_nearest_169 Q a1 a2 a3 a4 sM w) hI hA k1 k2 r3 ht hs hk))⟩)))
          by_cases c : t < 31
          · rw [if_pos c] at goM ⊢
            have hb : nb t := ⟨ht.1, c⟩
            have hne := ((hs t hb).mpr rfl).1
            have tR : jx_R t := hb.R
            have tn : ¬ t = -1 := by have := hb.1; omega
            have sb : sdk sT sM t 0 := ⟨fun _ => ⟨hb, hne⟩, fun z => absurd rfl z⟩
            have db := diF_bd (sT 0 t) a1 a2 k1 k2
            have dR : jx_R (diF (sT 0 t) a1 a2) := jx_inR (by omega) (by omega)
            obtain ⟨b, ⟨b1, b2⟩, bg⟩ := g_lay hI.1 hI.2.1 hA
            have hAb : Ag sT b := hA.of (b1 0 (by decide) (by decide))
            have hRb : ∀ tB tS, RRd tB sT tS sC sU sV sW sH sH0 sH1 sH2 sH3 sO b := fun tB tS => rr_of hR (fun z hz => b1 z (rr_ne hz rfl) (rr_ne hz rfl))
            have goM2 : ∀ Q : Int → jx_St → Prop, (jx_R a4 ∧ ((a4 = 0 → Q t b) ∧ (¬ a4 = 0 → jx_R a4 ∧ ((a4 = 1 → Q (diF (sT 0 t) a1 a2) b) ∧ (¬ a4 = 1 → Q (smL (gD sT (gDi sT a1 a2 (diF (sT 0 t) a1 a2))) nds) b))))) → wp_M_nearest Q sM a1 a2 a3 a4 := fun Q k => goM Q ⟨tR, fun z => absurd z tn, fun _ => m_distance hA sb z0 k1 k2 (by
              rw [hv_0]
              exact bg _ (m_nearest_199 (K := fun w => wp_M_nearest_255 Q a1 a2 a3 a4 b t (diF (sT 0 t) a1 a2) w) hI hAb b2 k1 k2 dR k))⟩
            refine ⟨tR, fun z => absurd z tn, fun _ => ⟨r4, fun e => ?_, fun e => p_hull z0 (by unfold tv; rw [if_pos rfl]; exact hb) ?_⟩⟩
            · exact goM2 _ ⟨r4, fun _ => ⟨rfl, hRb _ _⟩, fun z => absurd e z⟩
            · rw [hv_0]
              refine p_distance k1 k2 ⟨r4, fun e1 => ?_, fun e1 => ?_⟩
              · exact goM2 _ ⟨r4, fun z => absurd z e, fun _ => ⟨r4, fun _ => ⟨rfl, hRb _ _⟩, fun z => absurd e1 z⟩⟩
              · exact p_nodesWithin hI.1 hI.2.1 k1 k2 dR (fun ψ' => goM2 _ ⟨r4, fun z => absurd z e, fun _ => ⟨r4, fun z => absurd z e1, fun _ => ⟨rfl, hRb _ _⟩⟩⟩)
          · rw [if_neg c] at goM ⊢
            exact ⟨R_lit (-1) (by decide), fun _ => goM _ ⟨R_lit (-1) (by decide), fun _ => ⟨rfl, rr_of hR (fun _ _ => rfl)⟩, fun z => absurd rfl z⟩, fun z => absurd rfl z⟩
        · exact p_upTo_f k4 r4 z2 (c0 (m_in_t k1.1 k1.2 z0 z99 (c1 (m_in_t k2.1 k2.2 z0 z99 (c1 ⟨r3, fun z => absurd z q, fun _ => m_in_f k4 r4 z0 z2 (c0 ⟨rfl, hR⟩)⟩)))))
    · exact p_isPoint_f k2 r2 (c0 (m_in_t k1.1 k1.2 z0 z99 (c1 (m_in_f k2 r2 z0 z99 (c0 ⟨rfl, hR⟩)))))
  · exact p_isPoint_f k1 r1 (c0 (m_in_f k1 r1 z0 z99 (c0 ⟨rfl, hR⟩)))
