/-! ===== the pure part: both sides climb ===== -/
def fM (Qm : jx_St → Prop) (x l : Int) : (jx_St × Int × Int × Int → Prop) → jx_St × Int × Int × Int → Prop := fun B v => wp_M_comes_64 Qm x l B v.1 v.2.1 v.2.2.1 v.2.2.2
theorem c64_zero {Qm : jx_St → Prop} {x l d n : Int} {B : jx_St × Int × Int × Int → Prop} {μ : jx_St} (hQ : Qm μ) : wp_M_comes_64 Qm x l B μ d n 0 := ⟨jx_inR (by decide) (by decide), fun _ => hQ, fun z => absurd rfl z⟩
theorem c64_stop {Qm : jx_St → Prop} {x l d n : Int} {B : jx_St × Int × Int × Int → Prop} {σ μ : jx_St} (hA : Ag σ μ) (hn : lvn σ n) (h0 : 0 ≤ σ 3 n) (h4 : σ 3 n ≤ 4) (hQ : Qm μ) : wp_M_comes_64 Qm x l B μ d n 1 :=
  ⟨jx_inR (by decide) (by decide), fun z => absurd z (by decide), fun _ => m_manyOf hA hn ⟨jx_inR (by omega) (by omega), fun z => absurd z (by omega), fun _ => hQ⟩⟩
theorem c64_118 {Qm : jx_St → Prop} {x l d n : Int} {B : jx_St × Int × Int × Int → Prop} {σ μ : jx_St} (hW : jx_R (σ 7 0)) (hA : Ag σ μ) (hn : lvn σ n) (h5 : σ 3 n = 5) (hor : n = σ 7 0 ∨ bt (μ 14 0) (σ 2 n) ≠ 0) (hB : wp_M_comes_118 Qm x l B μ d n 1) : wp_M_comes_64 Qm x l B μ d n 1 := by
  have e0 : μ 0 0 = σ 7 0 := hA.1
  refine ⟨jx_inR (by decide) (by decide), fun z => absurd z (by decide), fun _ => m_manyOf hA hn ⟨jx_inR (by omega) (by omega), fun _ => ⟨hn.1.R, by rw [e0]; exact hW, fun _ => hB, fun z => m_level hA hn.1 ⟨rr_and _ _, fun y => ?_, fun _ => hB⟩⟩, fun z => absurd h5 z⟩⟩
  rw [e0] at z
  rcases hor with w | w
  · exact absurd w z
  · exact absurd y w
theorem c64_court {Qm : jx_St → Prop} {x l d n : Int} {B : jx_St × Int × Int × Int → Prop} {σ μ : jx_St} (hW : jx_R (σ 7 0)) (hA : Ag σ μ) (hn : lvn σ n) (h5 : σ 3 n = 5) (h1 : n ≠ σ 7 0) (h2 : bt (μ 14 0) (σ 2 n) = 0) (hB : wp_M_court (fun s => B (s, d, n, 0)) μ n) : wp_M_comes_64 Qm x l B μ d n 1 := by
  have e0 : μ 0 0 = σ 7 0 := hA.1
  exact ⟨jx_inR (by decide) (by decide), fun z => absurd z (by decide), fun _ => m_manyOf hA hn ⟨jx_inR (by omega) (by omega), fun _ => ⟨hn.1.R, by rw [e0]; exact hW, fun z => absurd (by rw [← e0]; exact z) h1, fun z => m_level hA hn.1 ⟨rr_and _ _, fun _ => hB, fun y => absurd h2 y⟩⟩, fun z => absurd h5 z⟩⟩
theorem climb {Qc : jx_St → jx_St → jx_St → Prop} {l1 l2 l3 : Int} {K : jx_St × jx_St × jx_St → Prop} {ρ0 σ0 μ0 ρ ψ σ μ : jx_St} {P0 : List (Int × Int)} {p : Int → Int} {d n : Int} (hR : Rs ρ0 σ0 μ0 P0 ρ σ μ) (hp : Pth σ p d n) (hF : Fo σ n) (h5 : σ 3 n ≤ 5) (hm : ∀ i, 0 ≤ i → i < d → μ 23 i = p i) (hw : ρ0 4 0 + 2 * unc (ρ0 5 0) ≤ 9) (hc : ρ0 8 0 + unc (ρ0 5 0) ≤ 48)
    (h : ∀ ρ' ψ' τ μ', Rs ρ0 σ0 μ0 P0 ρ' τ μ' → Al τ → (∀ (Qm : jx_St → Prop) x l, Qm μ' → jx_lp (fM Qm x l) (μ, d, n, 1)) → K (ρ', ψ', τ)) : jx_lp (fun B v => wp_C_insert_121 Qc l1 l2 K l3 B v.1 v.2.1 v.2.2.1 v.2.2.2.1 v.2.2.2.2) (ρ, ψ, σ, n, 0) := by
  have d3 : d ≤ 3 := by
    have h1 := hp.2.2.2.1 d hp.1 (Int.le_refl _)
    have := h1.1.2
    have := hR.1.1.2.1
    omega
  have conv : ∀ ρ' σ' μ', Rs ρ0 σ0 μ0 P0 ρ' σ' μ' → ρ' 4 0 + 2 * unc (ρ' 5 0) ≤ 9 ∧ ρ' 8 0 + unc (ρ' 5 0) ≤ 48 := fun ρ' σ' μ' h => ⟨Int.le_trans h.2.2.2.2.2.2.1 hw, Int.le_trans h.2.2.2.2.2.2.2.1 hc⟩
  refine jx_loop (fun v => 0 ≤ v.2.2.2.2 ∧ ((∃ μ' d', Rs ρ0 σ0 μ0 P0 v.1 v.2.2.1 μ' ∧ Pth v.2.2.1 p d' v.2.2.2.1 ∧ Fo v.2.2.1 v.2.2.2.1 ∧ v.2.2.1 3 v.2.2.2.1 ≤ 5 ∧ (∀ i, 0 ≤ i → i < d' → μ' 23 i = p i) ∧ v.2.2.2.2 + d' ≤ 3 ∧ ∀ Qm x l, jx_lp (fM Qm x l) (μ', d', v.2.2.2.1, 1) → jx_lp (fM Qm x l) (μ, d, n, 1)) ∨
    (∃ μ', Rs ρ0 σ0 μ0 P0 v.1 v.2.2.1 μ' ∧ Al v.2.2.1 ∧ lvn v.2.2.1 v.2.2.2.1 ∧ v.2.2.2.2 ≤ 4 ∧ ∀ (Qm : jx_St → Prop) x l, Qm μ' → jx_lp (fM Qm x l) (μ, d, n, 1)))) (fun v => (8 - v.2.2.2.2).toNat) (fun B v hI hB => ?_) ⟨Int.le_refl _, Or.inl ⟨μ, d, hR, hp, hF, h5, hm, by dsimp only; omega, fun _ _ _ z => z⟩⟩
  obtain ⟨ρ1, ψ1, σ1, n1, st⟩ := v
  obtain ⟨s0, hI⟩ := hI
  dsimp only at s0 hI ⊢
  have stR : st ≤ 4 → jx_R st := fun _ => jx_inR (by omega) (by omega)
  rcases hI with ⟨μ1, d1, a1, a2, a3, a4, a5, a6, a7⟩ | ⟨μ1, a1, a2, a3, a4, a5⟩
  · have hn := a2.lv
    have d10 := a2.1
    obtain ⟨hW, hH, hA, hK, hC, h9, hw1, hc1, hl, hM, hq⟩ := id a1
    obtain ⟨w1, c1⟩ := conv _ _ _ a1
    have z3 := (hW.sh.1 n1 hn).1
    refine ⟨stR (by omega), fun _ => p_sizeOf hn.1 ⟨jx_inR (by omega) (by omega), fun q => ?_, fun q => p_courtIsDue hW hn ?_⟩, fun q => absurd (show st < 8 by omega) q⟩
    · refine h ρ1 ψ1 σ1 μ1 a1 (fun m hm' => ?_) (fun Qm x l hQ => a7 Qm x l (lp_done (fun B' => ?_)))
      · by_cases y : m = n1
        · rw [y]; exact q
        · exact a3 m hm' y
      · exact c64_stop hA hn z3 q hQ
    · have e5 : σ1 3 n1 = 5 := by omega
      have e0 : μ1 0 0 = σ1 7 0 := hA.1
      -- the reference at the same node
      have m118 : (n1 = σ1 7 0 ∨ bt (ρ1 5 0) (σ1 2 n1) ≠ 0) → ∀ Qm x l (v' : jx_St × Int × Int × Int), (∀ B' : jx_St × Int × Int × Int → Prop, B' v' → wp_M_comes_118 Qm x l B' μ1 d1 n1 1) → jx_lp (fM Qm x l) v' → jx_lp (fM Qm x l) (μ1, d1, n1, 1) := fun hor Qm x l v' hs hlp => by
        refine lp_step (fun B' hB' => ?_) hlp
        exact c64_118 hW.1.1.1.R hA hn e5 (by dsimp only; rw [hC.1]; exact hor) (hs B' hB')
      by_cases c : n1 ≠ σ1 7 0 ∧ bt (ρ1 5 0) (σ1 2 n1) = 0
      · rw [if_pos c]
        refine ⟨jx_inR (by decide) (by decide), fun z => absurd z (by decide), fun _ => ?_⟩
        refine climb_C a1 hn e5 a3 c.1 c.2 w1 c1 (by
          have dp : 0 < d1 := by
            have := a2.root
            omega
          have u5 := (a2.up hW dp).2.2.2.2.1
          have u1 := (a2.up hW dp).1.1.1
          omega) (fun ρ2 ψ2 σ2 μ2 r1 r2 r3 r4 => hB _ ⟨by dsimp only; omega, Or.inr ⟨μ2, r1, r2, r3, by dsimp only; omega, fun Qm x l hQ => a7 Qm x l (lp_step (a' := (μ2, d1, n1, 0)) (fun B' hB' => ?_) (lp_done (fun B' => ?_)))⟩⟩ (by dsimp only; omega))
        · exact c64_court hW.1.1.1.R hA hn e5 c.1 (by dsimp only; rw [hC.1]; exact c.2) (r4 _ hB')
        · exact c64_zero hQ
      · rw [if_neg c]
        refine ⟨jx_inR (by decide) (by decide), fun _ => ?_, fun z => absurd rfl z⟩
        have hor : n1 = σ1 7 0 ∨ bt (ρ1 5 0) (σ1 2 n1) ≠ 0 := by
          by_cases y : n1 = σ1 7 0
          · exact Or.inl y
          · exact Or.inr (fun w => c ⟨y, w⟩)
        by_cases y : n1 = σ1 7 0
        · refine climb_B hW hH hA y e5 a3 (fun g ρ2 σ2 μ2 r1 r2 r3 r4 r5 r6 r7 r8 r9 r10 => hB _ ⟨by dsimp only; omega, Or.inr ⟨μ2, a1.stepA r1 r2 r3 r4 r7.1 r8 r9 r7.2, r6, r5, by dsimp only; omega, fun Qm x l hQ => a7 Qm x l (m118 hor Qm x l (μ2, d1, n1, 0) (fun B' hB' => r10 Qm x l d1 1 B' hB') (lp_done (fun B' => ?_)))⟩⟩ (by dsimp only; omega))
          exact c64_zero hQ
        · have dp : 0 < d1 := by
            have := a2.root
            omega
          refine climb_A hW hH hA a2 dp e5 a3 a5 (fun ρ2 σ2 μ2 r1 r2 r3 r4 r5 r6 r7 r8 r9 r10 => hB _ ⟨by dsimp only; omega, Or.inl ⟨μ2, d1 - 1, a1.stepA r1 r2 r3 r4 r7.1 r8 r9 r7.2, r5, r6, ?_, fun i i0 i1 => ?_, by dsimp only; omega, fun Qm x l hQ => a7 Qm x l (m118 hor Qm x l (μ2, d1 - 1, p (d1 - 1), 1) (fun B' hB' => r10 Qm x l 1 B' hB') hQ)⟩⟩ (by dsimp only; omega))
          · exact (r2.sh.1 _ r5.lv).2.1
          · rw [r8 23 (by decide) (by decide) (by decide) (by decide) (by decide) (by decide) (by decide)]
            exact a5 i i0 (by omega)
  · have z3 := a2 _ a3
    have z0 := (a1.1.sh.1 n1 a3).1
    exact ⟨stR a4, fun _ => p_sizeOf a3.1 ⟨jx_inR (by omega) (by omega), fun _ => h ρ1 ψ1 σ1 μ1 a1 a2 a5, fun q => absurd z3 q⟩, fun q => absurd (show st < 8 by omega) q⟩
