/-! ===== the pure part: would, the whole of it ===== -/
theorem m_180 {Q : Int → jx_St → Prop} {sB sT sS sC sU sV sW sH sH0 sH1 sH2 sH3 sO sM μ4 μ5 ρ' τ ψ : jx_St} {S : List Int} {a1 a2 a3 a4 a5 t pl fu : Int} (hR : RRd sB sT sS sC sU sV sW sH sH0 sH1 sH2 sH3 sO sM) (r5 : jx_R a5) (hw : Wn a1 a2 a3 a4) (h1 : ∀ j, 0 ≤ j → j < 439 → μ4 1 j = sM 0 j) (hk : ∀ z, z ∈ rrL → z ≠ 0 → μ4 z = sM z) (hI : Inv τ) (hA : Ag τ μ5) (hC : Cr ρ' μ5) (hK : Km μ4 μ5) (hg : ∀ (Qm : jx_St → Prop), Qm μ5 → wp_M_putsBox Qm μ4 t (bs (bo a1 a2 a3 a4) 0) (bs (bo a1 a2 a3 a4) 1) (bs (bo a1 a2 a3 a4) 2) (bs (bo a1 a2 a3 a4) 3)) (hS : Sn τ ψ (τ 7 0) S)
    (h : ∀ b' : jx_St, (∀ tB tS tU tV tW, RRd tB sT tS sC tU tV tW sH sH0 sH1 sH2 sH3 sO b') → jx_R a5 ∧ ((a5 = 0 → Q pl b') ∧ (¬ a5 = 0 → jx_R a5 ∧ ((a5 = 1 → Q fu b') ∧ (¬ a5 = 1 → jx_R a5 ∧ ((a5 = 2 → Q (ρ' 8 0) b') ∧ (¬ a5 = 2 → jx_R a5 ∧ ((a5 = 3 → Q (τ 2 (τ 7 0) + 1) b') ∧ (¬ a5 = 3 → Q (ps (cN τ) (FS τ S 0)) b'))))))))) : wp_M_would_180 Q a1 a2 a3 a4 a5 μ4 t pl fu := by
  obtain ⟨q0, q1, q2, q3⟩ := bs_bo_w hw
  rw [q0, q1, q2, q3] at hg
  have hm1 : ∀ j, 0 ≤ j → j < 439 → μ5 1 j = sM 0 j := fun j j0 j1 => by rw [hK.1 1 (by decide)]; exact h1 j j0 j1
  have hmk : ∀ z, z ∈ rrL → z ≠ 0 → μ5 z = sM z := fun z hz hz0 => by rw [hK.1 z (kt_rr hz hz0)]; exact hk z hz hz0
  obtain ⟨b', ⟨f1, f2, f3⟩, fg⟩ := g_tail hI hA hS hm1 hmk
  have key := fg (fun r q s => jx_R a5 ∧ ((a5 = 0 → Q pl s) ∧ (¬ a5 = 0 → jx_R a5 ∧ ((a5 = 1 → Q fu s) ∧ (¬ a5 = 1 → jx_R a5 ∧ ((a5 = 2 → Q (s 17 0) s) ∧ (¬ a5 = 2 → jx_R a5 ∧ ((a5 = 3 → Q r s) ∧ (¬ a5 = 3 → Q q s))))))))) (by
    have := h b' (fun tB tS tU tV tW => rr_back hR f1 f2)
    rw [f3, hC.1]
    exact this)
  exact hg _ key
theorem step_would : st_would RRd := by
  intro sB sT sS sC sU sV sW sH sH0 sH1 sH2 sH3 sO sM a1 a2 a3 a4 a5 hR r1 r2 r3 r4 r5
  obtain ⟨hRT, hC, hT, hHh⟩ := id hR
  obtain ⟨hI, hA, h10⟩ := id hRT
  have z0 := R_lit 0 (by decide)
  have z4 := R_lit 4 (by decide)
  by_cases k1 : Wn a1 a2 a3 a4
  · refine p_isWindow_t k1 (c1 ?_)
    by_cases k2 : 0 ≤ a5 ∧ a5 ≤ 4
    · refine p_upTo_t k2.1 k2.2 z4 (c1 (p_freeNumber hI (fun t ht => ?_)))
      obtain ⟨⟨t0, t31⟩, tb, tf⟩ := id ht
      by_cases k3 : t < 31
      · rw [if_pos k3]
        have hb : nb t := ⟨t0, k3⟩
        have tabs := tf k3
        have hvb := vb_bo k1
        obtain ⟨q0, q1, q2, q3⟩ := bs_bo_w k1
        generalize hv : bo a1 a2 a3 a4 = v at hvb q0 q1 q2 q3
        -- the reference, up to the leaf
        obtain ⟨b, ⟨b1, b2⟩, bg⟩ := m_copy (μ := sM)
        obtain ⟨μ1, hμ1⟩ : ∃ u : jx_St, u = jx_su (jx_su (jx_su (jx_su b 0 (35 + (4 * t)) a1) 0 ((35 + (4 * t)) + 1) a2) 0 ((35 + (4 * t)) + 2) a3) 0 ((35 + (4 * t)) + 3) a4 := ⟨_, rfl⟩
        have f0 : ∀ j, μ1 0 j = if j = 35 + 4 * t + 3 then a4 else if j = 35 + 4 * t + 2 then a3 else if j = 35 + 4 * t + 1 then a2 else if j = 35 + 4 * t then a1 else b 0 j := fun j => by
          rw [hμ1, jx_su_same, jx_su_same, jx_su_same, jx_su_same]
        have fz : ∀ z, z ≠ 0 → μ1 z = b z := fun z h0 => by
          funext i
          rw [hμ1, jx_su_ne h0, jx_su_ne h0, jx_su_ne h0, jx_su_ne h0]
        have hA1 : Ag sT μ1 := ag_side (μ := sM) hA hb tabs (fun j hj => by
          rw [f0, if_neg (by omega), if_neg (by omega), if_neg (by omega), if_neg (by omega), b1 0 (by decide)])
        have hs1 : ∀ k, 0 ≤ k → k < 4 → μ1 0 (35 + 4 * t + k) = bs v k := fun k k0 k4 => by
          rw [f0]
          have : k = 0 ∨ k = 1 ∨ k = 2 ∨ k = 3 := by omega
          rcases this with z | z | z | z
          · rw [z, if_neg (by omega), if_neg (by omega), if_neg (by omega), if_pos (by omega), q0]
          · rw [z, if_neg (by omega), if_neg (by omega), if_pos rfl, q1]
          · rw [z, if_neg (by omega), if_pos rfl, q2]
          · rw [z, if_pos rfl, q3]
        obtain ⟨μ2, ⟨l1, l2⟩, lg⟩ := g_lay hI.1 hI.2.1 hA1
        have hA2 : Ag sT μ2 := hA1.of (l1 0 (by decide) (by decide))
        obtain ⟨⟨μ3, n⟩, ⟨w1, w2⟩, wg⟩ := g_134 (a := a1) (b := a2) (c := a3) (d := a4) (e := a5) hI hA2 l2 hb (fun k k0 k4 => by rw [l1 0 (by decide) (by decide)]; exact hs1 k k0 k4) hvb
        dsimp only at w1 w2
        have hA3 : Ag sT μ3 := hA2.of (w1 0 (by decide))
        have hW := hI.1
        have h1z : ∀ z, lvn sT z → 0 < sT 2 z → 1 ≤ sT 3 z := fun z hz zz => ((hW.2.2.2.1 z hz).2.2.resolve_left List.not_mem_nil).2 zz
        have r3' := hW.1.2.1
        obtain ⟨n1, n2⟩ := dsc_ok (b := v) hW.sh h1z (Int.le_refl 0) 8 (sT 7 0) hW.1.1 hW.1.1.2 (by show sT 2 (sT 7 0) - 0 ≤ 8; omega)
        rw [← w2] at n1 n2
        have n4 := hI.2.2.1 n n1
        have n0 := (hW.sh.1 n n1).1
        -- from the leaf on
        have chain : ∀ (ψ : jx_St) (S A B : List Int), Sn sT ψ (sT 7 0) S → S = A ++ n :: B → ∃ μ4 : jx_St, Ag sT μ4 ∧ (∀ j, 0 ≤ j → j < 439 → μ4 1 j = sM 0 j) ∧ (∀ z, z ∈ rrL → z ≠ 0 → μ4 z = sM z) ∧ ∀ Q : Int → jx_St → Prop, wp_M_would_180 Q a1 a2 a3 a4 a5 μ4 t ((FS sT A (sT 2 n)).length : Int) (if sT 3 n < 4 then 0 else 1) → wp_M_would Q sM a1 a2 a3 a4 a5 := fun ψ S A B hS hs => by
          obtain ⟨μ4, d1, dg⟩ := m_placeOf hW hA3 hS n1 hs
          have e4 : ∀ z, z ≠ 0 → z ≠ 7 → z ≠ 8 → z ≠ 9 → z ≠ 25 → z ≠ 26 → z ≠ 27 → μ4 z = b z := fun z y0 y7 y8 y9 y25 y26 y27 => by rw [d1 z y25 y26 y27, w1 z y9, l1 z y7 y8, fz z y0]
          have hA4 : Ag sT μ4 := hA3.of (d1 0 (by decide) (by decide) (by decide))
          refine ⟨μ4, hA4, fun j j0 j1 => by rw [e4 1 (by decide) (by decide) (by decide) (by decide) (by decide) (by decide) (by decide), b2 j j0 j1], fun z hz z0 => by rw [e4 z z0 (rr_ne hz rfl) (rr_ne hz rfl) (rr_ne hz rfl) (rr_ne hz rfl) (rr_ne hz rfl) (rr_ne hz rfl), b1 z (rr_ne hz rfl)], fun Q hQ => ?_⟩
          refine m_areSides_t k1 (c1 (m_in_t k2.1 k2.2 z0 z4 (c1 (m_27 (K := fun w => wp_M_would_49 Q a1 a2 a3 a4 a5 sM w) hA ht ⟨hb.R, fun z => absurd z (by omega), fun _ => bg _ ⟨⟨by omega, by show 35 + 4 * t < 439; omega⟩, ⟨by omega, by show 35 + 4 * t + 1 < 439; omega⟩, ⟨by omega, by show 35 + 4 * t + 2 < 439; omega⟩, ⟨by omega, by show 35 + 4 * t + 3 < 439; omega⟩, ?_⟩⟩))))
          rw [← hμ1]
          refine lg _ ?_
          rw [hA2.1]
          have sR : jx_R (sT 3 n) := jx_inR (by omega) (by omega)
          have h157 : wp_M_would_157 Q a1 a2 a3 a4 a5 μ3 t n := by
            refine dg _ (m_manyOf hA4 n1 ⟨sR, fun e => ?_, fun e => ?_⟩)
            · rw [if_neg (by omega)] at hQ; exact hQ
            · rw [if_pos (by omega)] at hQ; exact hQ
          exact wg Q (fun w => wp_M_would_157 Q a1 a2 a3 a4 a5 w.1 t w.2) h157
        obtain ⟨ψ0, S0, hS0⟩ := sn_exists hW hW.1.1
        -- the putting, on a tree that is like the class's
        refine ⟨hb.R, fun z => absurd z (by omega), fun _ => p_of ?_⟩
        rw [hv]
        refine p_nodeFor hW.sh (fun m hm => hI.2.1.1 m hm.1) h1z hW.1.1 ⟨Int.le_refl _, hW.1.1.2⟩ (Or.inr hvb) ?_
        rw [← w2]
        refine ⟨r5, fun e0 => p_placeOf hW n1 (fun ψ' ψs S A B hS hs => ?_), fun e0 => ⟨r5, fun e1 => ?_, fun e1 => ?_⟩⟩
        · obtain ⟨μ4, hA4, m1, mk, goM⟩ := chain ψs S A B hS hs
          refine ex_C_bringIn (lock_bringIn (Q := fun _ _ _ => wp_M_would (fun r2 tM => ((FS sT A (sT 2 n)).length : Int) = r2 ∧ RRd sB sT ψ' sC sU sV sW sH sH0 sH1 sH2 sH3 sO tM) sM a1 a2 a3 a4 a5) (ρ := fun _ _ => 0) (ψ := fun _ _ => 0) hI hA4 hb tabs hvb (fun ρ' ψ'' τ μ5 y1 y2 y3 y4 y5 y6 y7 y8 => ?_)) (fun _ _ _ h => h)
          obtain ⟨ψ1, S1, hS1⟩ := sn_exists y1.1 y1.1.1.1
          rw [← hv] at y8
          exact goM _ (m_180 hR r5 k1 m1 mk y1 y2 y5 y7 y8 hS1 (fun b' hb' => ⟨r5, fun _ => ⟨rfl, hb' _ _ _ _ _⟩, fun z => absurd e0 z⟩))
        · obtain ⟨A, B, hs⟩ := List.append_of_mem (sn_all hW hS0 n n1)
          obtain ⟨μ4, hA4, m1, mk, goM⟩ := chain ψ0 S0 A B hS0 hs
          have go1 : ∀ fu, fu = (if sT 3 n < 4 then (0 : Int) else 1) → wp_M_would (fun r2 tM => fu = r2 ∧ RRd sB sT sS sC sU sV sW sH sH0 sH1 sH2 sH3 sO tM) sM a1 a2 a3 a4 a5 := fun fu hfu => by
            refine ex_C_bringIn (lock_bringIn (Q := fun _ _ _ => wp_M_would (fun r2 tM => fu = r2 ∧ RRd sB sT sS sC sU sV sW sH sH0 sH1 sH2 sH3 sO tM) sM a1 a2 a3 a4 a5) (ρ := fun _ _ => 0) (ψ := fun _ _ => 0) hI hA4 hb tabs hvb (fun ρ' ψ'' τ μ5 y1 y2 y3 y4 y5 y6 y7 y8 => ?_)) (fun _ _ _ h => h)
            obtain ⟨ψ1, S1, hS1⟩ := sn_exists y1.1 y1.1.1.1
            rw [← hv] at y8
            exact goM _ (m_180 hR r5 k1 m1 mk y1 y2 y5 y7 y8 hS1 (fun b' hb' => ⟨r5, fun z => absurd z e0, fun _ => ⟨r5, fun _ => ⟨hfu, hb' _ _ _ _ _⟩, fun z => absurd e1 z⟩⟩))
          exact p_sizeOf n1.1 ⟨jx_inR (by omega) (by omega), fun z => go1 0 (by rw [if_pos z]), fun z => go1 1 (by rw [if_neg z])⟩
        · obtain ⟨A, B, hs⟩ := List.append_of_mem (sn_all hW hS0 n n1)
          obtain ⟨μ4, hA4, m1, mk, goM⟩ := chain ψ0 S0 A B hS0 hs
          refine p_copy (fun υ hυ => ?_)
          refine lock_bringIn (inv_er hI hυ) (ag_er hI hA4 hυ) hb (by rw [(hυ.1 t t0 k3).1]; exact tabs) hvb (fun ρ' ψ'' τ μ5 y1 y2 y3 y4 y5 y6 y7 y8 => ?_)
          obtain ⟨ψ1, S1, hS1⟩ := sn_exists y1.1 y1.1.1.1
          rw [← hv] at y8
          refine ⟨r5, fun e2 => goM _ (m_180 hR r5 k1 m1 mk y1 y2 y5 y7 y8 hS1 (fun b' hb' => ⟨r5, fun z => absurd z e0, fun _ => ⟨r5, fun z => absurd z e1, fun _ => ⟨r5, fun _ => ⟨rfl, hb' _ _ _ _ _⟩, fun z => absurd e2 z⟩⟩⟩)), fun e2 => ⟨r5, fun e3 => p_height y1.1.1.1.1 (goM _ (m_180 hR r5 k1 m1 mk y1 y2 y5 y7 y8 hS1 (fun b' hb' => ⟨r5, fun z => absurd z e0, fun _ => ⟨r5, fun z => absurd z e1, fun _ => ⟨r5, fun z => absurd z e2, fun _ => ⟨r5, fun _ => ⟨rfl, hb' _ _ _ _ _⟩, fun z => absurd e3 z⟩⟩⟩⟩))), fun e3 => p_overlapsOf y1.1 y1.2.1 z0 (fun ψ2 ψs S hS => goM _ (m_180 hR r5 k1 m1 mk y1 y2 y5 y7 y8 hS (fun b' hb' => ⟨r5, fun z => absurd z e0, fun _ => ⟨r5, fun z => absurd z e1, fun _ => ⟨r5, fun z => absurd z e2, fun _ => ⟨r5, fun z => absurd z e3, fun _ => ⟨rfl, hb' _ _ _ _ _⟩⟩⟩⟩⟩)))⟩⟩
      · rw [if_neg k3]
        have et : t = 31 := by omega
        refine ⟨R_lit (-1) (by decide), fun _ => ?_, fun z => absurd rfl z⟩
        exact m_areSides_t k1 (c1 (m_in_t k2.1 k2.2 z0 z4 (c1 (m_27 (K := fun w => wp_M_would_49 _ a1 a2 a3 a4 a5 sM w) hA ht ⟨jx_inR (by omega) (by omega), fun _ => ⟨rfl, hR⟩, fun z => absurd et z⟩))))
    · exact p_upTo_f k2 r5 z4 (c0 (m_areSides_t k1 (c1 (m_in_f k2 r5 z0 z4 (c0 ⟨rfl, hR⟩)))))
  · exact p_isWindow_f k1 r1 r2 r3 r4 (c0 (m_areSides_f k1 r1 r2 r3 r4 (c0 ⟨rfl, hR⟩)))
