/-! ===== the pure part: both sides climb, the root is split ===== -/
theorem climb_B {Q : Int → jx_St → jx_St → Prop} {ρ σ μ : jx_St} {P : List (Int × Int)} {n : Int} (hW : Ws σ P []) (hH : Hs σ []) (hA : Ag σ μ) (hr : n = σ 7 0) (h5 : σ 3 n = 5) (hF : Fo σ n)
    (h : ∀ g ρ' τ μ', (∀ k, k ≠ 10 → k ≠ 11 → ρ' k = ρ k) → Ws τ P [] → Hs τ [] → Ag τ μ' → lvn τ g → Al τ → (Kp σ τ ∧ τ 8 0 = σ 8 0) → (∀ z, z ≠ 0 → z ≠ 7 → z ≠ 8 → z ≠ 9 → z ≠ 10 → z ≠ 21 → z ≠ 22 → μ' z = μ z) → μ' 0 3 = μ 0 3 → (∀ (Qm : jx_St → Prop) (x l d l5 : Int) (B : jx_St × Int × Int × Int → Prop), B (μ', d, n, 0) → wp_M_comes_118 Qm x l B μ d n l5) → Q g ρ' τ) : wp_C_split Q ρ σ n := by
  have hn : lvn σ n := by rw [hr]; exact hW.1.1
  refine p_split hW hH hn h5 (fun e => absurd hr e) (fun _ f g τ ρ' ff gd gf ge gl hρ hs => ?_)
  obtain ⟨μb, ⟨b1, b2, τ', b3, b4⟩, bg⟩ := g_splits hW hH hA hn h5 ff
  have hh : ∀ k, 0 ≤ k → k < 5 → vbo (hv σ (th σ n k) (σ 2 n)) := fun k a b => Sh_hv hW.sh (fun m hm => hH.1 m hm.1) hn a (by omega)
  obtain ⟨s1, s2, s3, s4⟩ := swy_bd hh
  obtain ⟨μc, ⟨c1, c2, c3⟩, cg⟩ := g_aboveB hn ff.1 ff.2.1 ⟨s3, s4⟩ gd gf ge (hW.2.2.1 g gd ge).1 gl b3 b4 hs
  obtain ⟨sW, sH, t2, t3, tn, tf, tg0, tg1, tt, t9, t7, tr⟩ := hs
  have l0 := hn.2
  have gn : g ≠ n := fun e => by rw [e] at ge; omega
  have fn : n ≠ f := fun e => by rw [e, ff.2.1] at l0; omega
  have lg : lvn τ g := ⟨gd, by rw [t2, if_pos rfl]; omega⟩
  have hAl : Al τ := fun m hm => by
    rw [t3]
    by_cases y1 : m = n
    · rw [if_pos y1]; omega
    · rw [if_neg y1]
      by_cases y2 : m = f
      · rw [if_pos y2]; omega
      · rw [if_neg y2]
        by_cases y3 : m = g
        · rw [if_pos y3]; decide
        · rw [if_neg y3]
          refine hF m ⟨hm.1, ?_⟩ y1
          have := hm.2
          rw [t2, if_neg y3, if_neg y2] at this
          exact this
  have hKp : Kp σ τ := by
    refine ⟨by funext i; exact tr 0 i (by decide) (by decide) (by decide) (by decide) (by decide) (by decide) (by decide) (by decide), by funext i; exact tr 10 i (by decide) (by decide) (by decide) (by decide) (by decide) (by decide) (by decide) (by decide), by rw [t7, t2, if_pos rfl, ← hr]; omega, fun _ => ?_⟩
    unfold R2
    rw [t7, t3, if_neg gn, if_neg gf, if_pos rfl]
    exact fun _ => Int.le_refl _
  refine h g ρ' τ μc hρ sW sH c2 lg hAl ⟨hKp, tr 8 0 (by decide) (by decide) (by decide) (by decide) (by decide) (by decide) (by decide) (by decide)⟩ (fun z z0 z7 z8 z9 z10 z21 z22 => by rw [c1 z z0, b1 z z0 z7 z8 z9 z10 z21 z22]) (by rw [c3, b2]) (fun Qm x l d l5 B hB => ?_)
  have e7 : μb 0 0 = σ 7 0 := by
    rw [b4.1, jx_su_ne (by decide)]
    exact b3.2.2.2.2.2.2.2.2.2 7 0 (by decide) (by decide) (by decide) (by decide) (by decide) (by decide)
  refine bg _ ⟨hn.1.R, by rw [e7]; exact hW.1.1.1.R, fun z => ?_, fun z => absurd (by rw [e7]; exact hr) z⟩
  refine m_level b4 hn.1 ?_
  have e2 : jx_su τ' 9 0 (τ' 9 0 + 1) 2 n = σ 2 n := by
    rw [jx_su_ne (by decide), b3.2.2.2.2.2.2.2.2.1 n, if_neg fn]
  rw [e2]
  exact cg (fun r s => wp_M_comes_216 Qm x l B s d n 0) hB
