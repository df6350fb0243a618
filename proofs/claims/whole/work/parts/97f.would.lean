/-! ===== the pure part: would, wouldTake ===== -/
theorem rr_back {sB sT sS sC sU sV sW sH sH0 sH1 sH2 sH3 sO sM tB tS tU tV tW tM : jx_St} (h : RRd sB sT sS sC sU sV sW sH sH0 sH1 sH2 sH3 sO sM) (e : ∀ z, z ∈ rrL → z ≠ 0 → tM z = sM z) (e0 : ∀ j, 0 ≤ j → j < 439 → tM 0 j = sM 0 j) : RRd tB sT tS sC tU tV tW sH sH0 sH1 sH2 sH3 sO tM := by
  obtain ⟨h1, h2, h3, h4⟩ := h
  refine ⟨h1.in' e0, ?_, tx_of h3 (e 3 (by decide) (by decide)) (e 6 (by decide) (by decide)), hh_of h4 (e 2 (by decide) (by decide)) (e 4 (by decide) (by decide)) (e 5 (by decide) (by decide))⟩
  unfold Ct at h2 ⊢
  rw [e 20 (by decide) (by decide), e 18 (by decide) (by decide), e 19 (by decide) (by decide)]
  exact h2
theorem g_tail {τ μ μ0 ψ : jx_St} {S : List Int} (hI : Inv τ) (hA : Ag τ μ) (hS : Sn τ ψ (τ 7 0) S) (h1 : ∀ j, 0 ≤ j → j < 439 → μ 1 j = μ0 0 j) (hk : ∀ z, z ∈ rrL → z ≠ 0 → μ z = μ0 z) : ∃ b : jx_St, ((∀ z, z ∈ rrL → z ≠ 0 → b z = μ0 z) ∧ (∀ j, 0 ≤ j → j < 439 → b 0 j = μ0 0 j) ∧ b 17 0 = μ 17 0) ∧ ∀ (G : Int → Int → jx_St → Prop), G (τ 2 (τ 7 0) + 1) (ps (cN τ) (FS τ S 0)) b → wp_M_levels (fun r => wp_M_overlapsOf (fun q s => wp_M_back (fun s2 => G r q s2) s) μ 0) μ := by
  obtain ⟨μ2, c1, cg⟩ := g_overlapsOf (l := 0) hI.1 hI.2.1 hA hS ⟨Int.le_refl _, hI.1.1.1.2⟩
  obtain ⟨μ3, ⟨d1, d2⟩, dg⟩ := m_back (μ := μ2)
  refine ⟨μ3, ⟨fun z hz z0 => ?_, fun j j0 j1 => ?_, ?_⟩, fun G hG => m_levels hI hA (cg _ (dg _ hG))⟩
  · rw [d1 z z0, c1 z (rr_ne hz rfl) (rr_ne hz rfl) (rr_ne hz rfl) (rr_ne hz rfl) (rr_ne hz rfl) (rr_ne hz rfl) (rr_ne hz rfl), hk z hz z0]
  · rw [d2 j j0 j1, c1 1 (by decide) (by decide) (by decide) (by decide) (by decide) (by decide) (by decide), h1 j j0 j1]
  · rw [d1 17 (by decide), c1 17 (by decide) (by decide) (by decide) (by decide) (by decide) (by decide) (by decide)]
theorem kt_rr {z : Nat} (hz : z ∈ rrL) (h0 : z ≠ 0) : z ∉ kmL := by
  simp only [rrL, List.mem_cons, List.not_mem_nil, or_false] at hz
  simp only [kmL, List.mem_cons, List.not_mem_nil, or_false]
  omega
theorem step_wouldTake : st_wouldTake RRd := by
  intro sB sT sS sC sU sV sW sH sH0 sH1 sH2 sH3 sO sM a1 a2 hR r1 r2
  obtain ⟨hRT, hC, hT, hHh⟩ := id hR
  obtain ⟨hI, hA, h10⟩ := id hRT
  have z0 := R_lit 0 (by decide)
  have z3 := R_lit 3 (by decide)
  by_cases k1 : nb a1
  · refine p_isBox_t k1 (c1 ?_)
    by_cases k2 : 0 ≤ a2 ∧ a2 ≤ 3
    · refine p_upTo_t k2.1 k2.2 z3 (c1 ?_)
      by_cases k3 : sT 0 a1 = -1
      · exact p_has_f hI k1 k3 (c0 (m_isBox_t k1 (c1 (m_in_t k2.1 k2.2 z0 z3 (c1 (m_there_f hA k1 k3 (c0 ⟨rfl, hR⟩)))))))
      · obtain ⟨b, ⟨b1, b2⟩, bg⟩ := m_copy (μ := sM)
        have e0 : b 0 = sM 0 := b1 0 (by decide)
        refine p_has_t hI k1 k3 (c1 (p_copy (fun υ hυ => ?_)))
        have hRTb : RT υ b := (hRT.er hυ).of e0
        refine lock_takeOut hRTb.1 hRTb.2.1 hRTb.2.2 k1 (by rw [(hυ.1 a1 k1.1 k1.2).1]; exact k3) (fun ρ' ψ' τ μ2 y1 y2 y3 y4 y5 y6 y7 y8 => ?_)
        have hm1 : ∀ j, 0 ≤ j → j < 439 → μ2 1 j = sM 0 j := fun j j0 j1 => by rw [y7 1 (by decide) (by decide), b2 j j0 j1]
        have hmk : ∀ z, z ∈ rrL → z ≠ 0 → μ2 z = sM z := fun z hz hz0 => by rw [y7 z (kt_rr hz hz0) (rr_ne hz rfl), b1 z (rr_ne hz rfl)]
        -- the reference, to its end
        have goM : ∀ (ψ : jx_St) (S : List Int), Sn τ ψ (τ 7 0) S → ∀ Q : Int → jx_St → Prop, (∀ b' : jx_St, (∀ tB tS tU tV tW, RRd tB sT tS sC tU tV tW sH sH0 sH1 sH2 sH3 sO b') → jx_R a2 ∧ ((a2 = 0 → Q (τ 10 0 - sT 10 0) b') ∧ (¬ a2 = 0 → jx_R a2 ∧ ((a2 = 1 → Q (ρ' 8 0) b') ∧ (¬ a2 = 1 → jx_R a2 ∧ ((a2 = 2 → Q (τ 2 (τ 7 0) + 1) b') ∧ (¬ a2 = 2 → Q (ps (cN τ) (FS τ S 0)) b'))))))) → wp_M_wouldTake Q sM a1 a2 := fun ψ S hS Q hQ => by
          obtain ⟨b', ⟨f1, f2, f3⟩, fg⟩ := g_tail y1 y2 hS hm1 hmk
          have key := fg (fun r q s => jx_R a2 ∧ ((a2 = 0 → Q ((μ2 0 3) - (μ2 1 3)) s) ∧ (¬ a2 = 0 → jx_R a2 ∧ ((a2 = 1 → Q (s 17 0) s) ∧ (¬ a2 = 1 → jx_R a2 ∧ ((a2 = 2 → Q r s) ∧ (¬ a2 = 2 → Q q s))))))) (by
            have := hQ b' (fun tB tS tU tV tW => rr_back hR f1 f2)
            rw [← y4, hm1 3 (by decide) (by decide), ← h10, f3, y5.1]
            exact this)
          exact m_isBox_t k1 (c1 (m_in_t k2.1 k2.2 z0 z3 (c1 (m_there_t hA k1 k3 (c1 (bg _ (y8 _ key)))))))
        obtain ⟨ψ0, S0, hS0⟩ := sn_exists y1.1 y1.1.1.1
        refine ⟨r2, fun e => goM _ _ hS0 _ (fun b' hb' => ⟨r2, fun _ => ⟨rfl, hb' _ _ _ _ _⟩, fun z => absurd e z⟩), fun e => ⟨r2, fun e1 => goM _ _ hS0 _ (fun b' hb' => ⟨r2, fun z => absurd z e, fun _ => ⟨r2, fun _ => ⟨rfl, hb' _ _ _ _ _⟩, fun z => absurd e1 z⟩⟩), fun e1 => ⟨r2, fun e2 => p_height y1.1.1.1.1 (goM _ _ hS0 _ (fun b' hb' => ⟨r2, fun z => absurd z e, fun _ => ⟨r2, fun z => absurd z e1, fun _ => ⟨r2, fun _ => ⟨rfl, hb' _ _ _ _ _⟩, fun z => absurd e2 z⟩⟩⟩)), fun e2 => p_overlapsOf y1.1 y1.2.1 z0 (fun ψ' ψs S hS => goM _ _ hS _ (fun b' hb' => ⟨r2, fun z => absurd z e, fun _ => ⟨r2, fun z => absurd z e1, fun _ => ⟨r2, fun z => absurd z e2, fun _ => ⟨rfl, hb' _ _ _ _ _⟩⟩⟩⟩))⟩⟩⟩
    · exact p_upTo_f k2 r2 z3 (c0 (m_isBox_t k1 (c1 (m_in_f k2 r2 z0 z3 (c0 ⟨rfl, hR⟩)))))
  · exact p_isBox_f k1 r1 (c0 (m_isBox_f k1 r1 (c0 ⟨rfl, hR⟩)))
/-- the first number that is free -/
def frN (σ : jx_St) (t : Int) : Prop := (0 ≤ t ∧ t ≤ 31) ∧ (∀ b, 0 ≤ b → b < t → σ 0 b ≠ -1) ∧ (t < 31 → σ 0 t = -1)
theorem p_freeNumber {Q : Int → Prop} {σ : jx_St} (hI : Inv σ) (h : ∀ t, frN σ t → Q (if t < 31 then t else -1)) : wp_T_freeNumber Q σ := by
  refine jx_loop (fun v => 0 ≤ v ∧ v ≤ 31 ∧ ∀ b, 0 ≤ b → b < v → σ 0 b ≠ -1) (fun v => (31 - v).toNat) (fun B v hJ hB => ?_) ⟨Int.le_refl _, by decide, fun b b0 b1 => by omega⟩
  obtain ⟨a1, a2, a3⟩ := hJ
  refine ⟨jx_inR (by omega) (by omega), fun q => ?_, fun q => ?_⟩
  · by_cases c : σ 0 v = -1
    · have := h v ⟨⟨a1, a2⟩, a3, fun _ => c⟩
      rw [if_pos q] at this
      exact p_has_f hI ⟨a1, q⟩ c (c0 this)
    · refine p_has_t hI ⟨a1, q⟩ c (c1 (hB _ ⟨by omega, by omega, fun b b0 b1 => ?_⟩ (by omega)))
      by_cases e : b = v
      · rw [e]; exact c
      · exact a3 b b0 (by omega)
  · have := h v ⟨⟨a1, a2⟩, a3, fun z => absurd z q⟩
    rw [if_neg q] at this
    exact this
theorem m_27 {Q : Int → jx_St → Prop} {K : Int → Prop} {σ μ : jx_St} {a b c d e t : Int} (hA : Ag σ μ) (ht : frN σ t) (h : K t) : jx_lp (fun B v => wp_M_would_27 Q a b c d e K μ B v) 0 := by
  refine jx_loop (fun v => 0 ≤ v ∧ v ≤ t) (fun v => (31 - v).toNat) (fun B v hJ hB => ?_) ⟨Int.le_refl _, ht.1.1⟩
  obtain ⟨a1, a2⟩ := hJ
  have t31 := ht.1.2
  refine ⟨jx_inR (by omega) (by omega), fun q => ?_, fun q => ?_⟩
  · by_cases y : v = t
    · rw [y] at q
      rw [y]
      exact m_there_f hA ⟨ht.1.1, q⟩ (ht.2.2 q) (c0 h)
    · exact m_there_t hA ⟨a1, q⟩ (ht.2.1 v a1 (by omega)) (c1 (hB _ ⟨by omega, by omega⟩ (by omega)))
  · rw [show v = t by omega]; exact h
theorem ag_side {σ μ μ' : jx_St} {b : Int} (hA : Ag σ μ) (hb : nb b) (h0 : σ 0 b = -1) (h : ∀ j, (j < 35 + 4 * b ∨ 35 + 4 * b + 4 ≤ j) → μ' 0 j = μ 0 j) : Ag σ μ' := by
  have b0 := hb.1
  have b1 := hb.2
  obtain ⟨c0, c1, c2, c3, c4, c5, c6, c7⟩ := hA
  refine ⟨?_, fun m m0 m1 => ?_, fun m hm => ?_, fun m k hm k0 k1 => ?_, fun c hc => ?_, fun c k hc hne k0 k1 => ?_, ?_, ?_⟩
  · rw [h 0 (by omega), c0]
  · rw [h _ (by omega), c1 m m0 m1]
  · have := hm.1.1; rw [h _ (by omega), c2 m hm]
  · have := hm.1.1; rw [h _ (by omega), c3 m k hm k0 k1]
  · have := hc.1; have := hc.2; rw [h _ (by omega), c4 c hc]
  · have := hc.1; have := hc.2
    have : c ≠ b := fun e => hne (by rw [e]; exact h0)
    rw [h _ (by omega), c5 c k hc hne k0 k1]
  · rw [h 1 (by omega), c6]
  · rw [h 2 (by omega), c7]
