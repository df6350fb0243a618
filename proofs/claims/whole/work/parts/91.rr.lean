/-! ===== the pure part: what holds of both sides between calls ===== -/
def RT (σ μ : jx_St) : Prop := Inv σ ∧ Ag σ μ ∧ σ 10 0 = μ 0 3
def Ct (ρ μ : jx_St) : Prop := μ 20 0 = ρ 8 0 ∧ 0 ≤ ρ 8 0 ∧ ρ 8 0 ≤ 32 ∧ ∀ j, 0 ≤ j → j < ρ 8 0 → μ 18 j = ρ 6 j ∧ μ 19 j = ρ 7 j
def Tx (o μ : jx_St) : Prop := μ 6 0 = o 1 0 ∧ 0 ≤ o 1 0 ∧ o 1 0 ≤ 60 ∧ ∀ j, 0 ≤ j → j < o 1 0 → μ 3 j = o 0 j ∧ 32 ≤ o 0 j ∧ o 0 j ≤ 126
def hst (h0 h1 h2 h3 : jx_St) (s : Int) : jx_St := if s = 0 then h0 else if s = 1 then h1 else if s = 2 then h2 else h3
def hrow (μ : jx_St) (s : Int) : jx_St := fun _ j => μ 2 (439 * s + j)
def Hh (h h0 h1 h2 h3 μ : jx_St) : Prop := 0 ≤ h 2 0 ∧ h 2 0 ≤ 4 ∧ 0 ≤ h 1 0 ∧ h 1 0 < 4 ∧ μ 4 0 = h 2 0 ∧ μ 5 0 = (h 1 0 + h 2 0) % 4 ∧ ∀ i, 0 ≤ i → i < h 2 0 → RT (hst h0 h1 h2 h3 ((h 1 0 + i) % 4)) (hrow μ ((h 1 0 + i) % 4))
def RRd : jx_RT := fun _ sT _ sC _ _ _ sH sH0 sH1 sH2 sH3 sO sM => RT sT sM ∧ Ct sC sM ∧ Tx sO sM ∧ Hh sH sH0 sH1 sH2 sH3 sM
def rrL : List Nat := [0, 2, 3, 4, 5, 6, 18, 19, 20]
theorem rr_ne {z k : Nat} (hz : z ∈ rrL) (hk : rrL.contains k = false) : z ≠ k := by
  intro e
  subst e
  rw [List.contains_iff_mem.mpr hz] at hk
  cases hk
theorem RT.of {σ μ μ' : jx_St} (h : RT σ μ) (e : μ' 0 = μ 0) : RT σ μ' := ⟨h.1, h.2.1.of e, by rw [e]; exact h.2.2⟩
theorem rr_of {sB sT sS sC sU sV sW sH sH0 sH1 sH2 sH3 sO sM tB tS tU tV tW tM : jx_St} (h : RRd sB sT sS sC sU sV sW sH sH0 sH1 sH2 sH3 sO sM) (e : ∀ z, z ∈ rrL → tM z = sM z) : RRd tB sT tS sC tU tV tW sH sH0 sH1 sH2 sH3 sO tM := by
  obtain ⟨h1, h2, h3, h4⟩ := h
  refine ⟨h1.of (e 0 (by decide)), ?_, ?_, ?_⟩
  · unfold Ct at h2 ⊢; rw [e 20 (by decide), e 18 (by decide), e 19 (by decide)]; exact h2
  · unfold Tx at h3 ⊢; rw [e 6 (by decide), e 3 (by decide)]; exact h3
  · unfold Hh hrow at h4 ⊢; rw [e 4 (by decide), e 5 (by decide), e 2 (by decide)]; exact h4
theorem c1 {X Y : Prop} (h : Y) : jx_R 1 ∧ (((1 : Int) = 0 → X) ∧ (¬ (1 : Int) = 0 → Y)) := ⟨jx_inR (by decide) (by decide), fun z => absurd z (by decide), fun _ => h⟩
theorem c0 {X Y : Prop} (h : X) : jx_R 0 ∧ (((0 : Int) = 0 → X) ∧ (¬ (0 : Int) = 0 → Y)) := ⟨jx_inR (by decide) (by decide), fun _ => h, fun z => absurd rfl z⟩
theorem p_upTo_t {Q : Int → Prop} {v t : Int} (h0 : 0 ≤ v) (h1 : v ≤ t) (ht : jx_R t) (h : Q 1) : wp_B_isUpTo Q v t := by
  have vR : jx_R v := jx_inR (by omega) (by have := ht.2; omega)
  exact ⟨vR, fun z => absurd z (by omega), fun _ => ⟨vR, ht, fun _ => h, fun z => absurd h1 z⟩⟩
theorem p_upTo_f {Q : Int → Prop} {v t : Int} (hn : ¬ (0 ≤ v ∧ v ≤ t)) (hv : jx_R v) (ht : jx_R t) (h : Q 0) : wp_B_isUpTo Q v t :=
  ⟨hv, fun _ => h, fun z => ⟨hv, ht, fun y => absurd ⟨by omega, y⟩ hn, fun _ => h⟩⟩
theorem m_in_t {Q : Int → Prop} {v a t : Int} (h0 : a ≤ v) (h1 : v ≤ t) (ha : jx_R a) (ht : jx_R t) (h : Q 1) : wp_M_in Q v a t := by
  have vR : jx_R v := jx_inR (by have := ha.1; omega) (by have := ht.2; omega)
  exact ⟨vR, ha, fun z => absurd z (by omega), fun _ => ⟨vR, ht, fun _ => h, fun z => absurd h1 z⟩⟩
theorem m_in_f {Q : Int → Prop} {v a t : Int} (hn : ¬ (a ≤ v ∧ v ≤ t)) (hv : jx_R v) (ha : jx_R a) (ht : jx_R t) (h : Q 0) : wp_M_in Q v a t :=
  ⟨hv, ha, fun _ => h, fun z => ⟨hv, ht, fun y => absurd ⟨by omega, y⟩ hn, fun _ => h⟩⟩
theorem R_lit (k : Int) (h : -2147483648 ≤ k ∧ k ≤ 2147483647) : jx_R k := h
theorem p_isBox_t {Q : Int → Prop} {v : Int} (hb : nb v) (h : Q 1) : wp_B_isBox Q v := p_upTo_t hb.1 (by have := hb.2; omega) (R_lit 30 (by decide)) ⟨Or.inr rfl, h⟩
theorem p_isBox_f {Q : Int → Prop} {v : Int} (hb : ¬ nb v) (hv : jx_R v) (h : Q 0) : wp_B_isBox Q v := p_upTo_f (fun z => hb ⟨z.1, by omega⟩) hv (R_lit 30 (by decide)) ⟨Or.inl rfl, h⟩
theorem m_isBox_t {Q : Int → Prop} {v : Int} (hb : nb v) (h : Q 1) : wp_M_isBox Q v := m_in_t hb.1 (by have := hb.2; omega) (R_lit 0 (by decide)) (R_lit 30 (by decide)) ⟨Or.inr rfl, h⟩
theorem m_isBox_f {Q : Int → Prop} {v : Int} (hb : ¬ nb v) (hv : jx_R v) (h : Q 0) : wp_M_isBox Q v := m_in_f (fun z => hb ⟨z.1, by omega⟩) hv (R_lit 0 (by decide)) (R_lit 30 (by decide)) ⟨Or.inl rfl, h⟩
theorem Inv.bR {σ : jx_St} (h : Inv σ) {b : Int} (hb : nb b) : jx_R (σ 0 b) := by
  rcases h.1.2.2.2.2.2.2.2.2.2 b hb with z | z
  · rw [z]; exact jx_inR (by decide) (by decide)
  · exact z.R
theorem Inv.vb {σ : jx_St} (h : Inv σ) {b : Int} (hb : nb b) (hn : σ 0 b ≠ -1) : vb (σ 0 b) := (h.1.2.2.2.2.2.2.2.2.2 b hb).resolve_left hn
theorem p_has_t {Q : Int → Prop} {σ : jx_St} {b : Int} (hI : Inv σ) (hb : nb b) (hn : σ 0 b ≠ -1) (h : Q 1) : wp_T_has Q σ b := p_has hb (hI.bR hb) (by rw [if_neg hn]; exact h)
theorem p_has_f {Q : Int → Prop} {σ : jx_St} {b : Int} (hI : Inv σ) (hb : nb b) (hn : σ 0 b = -1) (h : Q 0) : wp_T_has Q σ b := p_has hb (hI.bR hb) (by rw [if_pos hn]; exact h)
theorem m_there_t {Q : Int → Prop} {σ μ : jx_St} {b : Int} (hA : Ag σ μ) (hb : nb b) (hn : σ 0 b ≠ -1) (h : Q 1) : wp_M_isThere Q μ b := by
  have e := hA.2.2.2.2.1 b hb
  rw [if_neg hn] at e
  have b0 := hb.1
  have b1 := hb.2
  refine ⟨⟨by omega, by show 4 + b < 439; omega⟩, ?_⟩
  rw [e]
  exact ⟨jx_inR (by decide) (by decide), fun _ => h, fun z => absurd rfl z⟩
theorem m_there_f {Q : Int → Prop} {σ μ : jx_St} {b : Int} (hA : Ag σ μ) (hb : nb b) (hn : σ 0 b = -1) (h : Q 0) : wp_M_isThere Q μ b := by
  have e := hA.2.2.2.2.1 b hb
  rw [if_pos hn] at e
  have b0 := hb.1
  have b1 := hb.2
  refine ⟨⟨by omega, by show 4 + b < 439; omega⟩, ?_⟩
  rw [e]
  exact ⟨jx_inR (by decide) (by decide), fun z => absurd z (by decide), fun _ => h⟩
theorem m_levels {Q : Int → Prop} {σ μ : jx_St} (hI : Inv σ) (hA : Ag σ μ) (h : Q (σ 2 (σ 7 0) + 1)) : wp_M_levels Q μ := by
  unfold wp_M_levels
  rw [hA.1]
  exact m_level hA hI.1.1.1.1 h
/-- what is a window -/
def Wn (a b c d : Int) : Prop := 0 ≤ a ∧ 0 ≤ b ∧ a ≤ c ∧ b ≤ d ∧ c ≤ 99 ∧ d ≤ 99
