/-! ===== the pure part: put, take ===== -/
theorem g_tells {ρ μ : jx_St} (hC : Cr ρ μ) (h32 : ρ 8 0 ≤ 32) : ∃ b : jx_St, ((∀ z, z ≠ 18 → z ≠ 19 → z ≠ 20 → b z = μ z) ∧ Ct ρ b) ∧ ∀ Q : jx_St → Prop, Q b → wp_M_tells Q μ := by
  obtain ⟨h1, h2, h3⟩ := hC
  have f : ∀ z, z ≠ 20 → jx_su μ 20 0 (μ 17 0) z = μ z := fun z hz => by funext i; exact jx_su_ne hz
  have main := go_loop (γ := Unit) (F := fun (_ : Unit) (K : jx_St → Prop) B (v : jx_St × Int) => wp_M_tells_10 K B v.1 v.2) (fun v => 0 ≤ v.2 ∧ v.2 ≤ ρ 8 0 ∧ (∀ z, z ≠ 18 → z ≠ 19 → z ≠ 20 → v.1 z = μ z) ∧ v.1 20 0 = ρ 8 0 ∧ ∀ j, 0 ≤ j → j < v.2 → v.1 18 j = ρ 6 j ∧ v.1 19 j = ρ 7 j) (fun v => (40 - v.2).toNat) (fun b : jx_St => (∀ z, z ≠ 18 → z ≠ 19 → z ≠ 20 → b z = μ z) ∧ Ct ρ b) (fun v hI => ?_) (a := (jx_su μ 20 0 (μ 17 0), 0)) ⟨Int.le_refl _, h2, fun z _ _ hz => f z hz, by show jx_su μ 20 0 (μ 17 0) 20 0 = ρ 8 0; rw [jx_su_eq, h1], fun j j0 j1 => by dsimp only at j1; omega⟩
  · obtain ⟨b, hb, hg⟩ := main
    exact ⟨b, hb, fun Q hQ => hg () Q hQ⟩
  · obtain ⟨ν, i⟩ := v
    obtain ⟨a1, a2, a3, a4, a5⟩ := hI
    dsimp only at a1 a2 a3 a4 a5 ⊢
    have iR : jx_R i := jx_inR (by omega) (by omega)
    have e17 : ν 17 0 = ρ 8 0 := by rw [a3 17 (by decide) (by decide) (by decide), h1]
    have nR : jx_R (ν 17 0) := by rw [e17]; exact jx_inR (by omega) (by omega)
    have e15 : jx_su ν 18 i (ν 15 i) 16 i = ν 16 i := jx_su_ne (by decide)
    by_cases c : i < ρ 8 0
    · right
      have h15 : ν 15 = μ 15 := a3 15 (by decide) (by decide) (by decide)
      have h16 : ν 16 = μ 16 := a3 16 (by decide) (by decide) (by decide)
      refine ⟨(jx_su (jx_su ν 18 i (ν 15 i)) 19 i ((jx_su ν 18 i (ν 15 i)) 16 i), i + 1), ⟨by dsimp only; omega, by dsimp only; omega, fun z z18 z19 z20 => ?_, ?_, fun j j0 j1 => ?_⟩, by dsimp only; omega, fun _ K B hB => ⟨iR, nR, fun _ => ⟨⟨a1, by show i < 48; omega⟩, ⟨a1, by show i < 48; omega⟩, ⟨a1, by show i < 48; omega⟩, ⟨a1, by show i < 48; omega⟩, hB⟩, fun z => absurd (by rw [e17]; exact c) z⟩⟩
      · dsimp only; rw [← a3 z z18 z19 z20]; funext q; rw [jx_su_ne z19, jx_su_ne z18]
      · dsimp only; rw [jx_su_ne (by decide), jx_su_ne (by decide)]; exact a4
      · dsimp only at j1 ⊢
        rw [e15, jx_su_ne (by decide), jx_su_same, jx_su_same, jx_su_ne (by decide), h15, h16]
        by_cases e : j = i
        · rw [if_pos e, if_pos e, e]; exact h3 i a1 c
        · rw [if_neg e, if_neg e]; exact a5 j j0 (by omega)
    · left
      exact ⟨ν, ⟨a3, a4, h2, h32, fun j j0 j1 => a5 j j0 (by omega)⟩, fun _ K B hK => ⟨iR, nR, fun z => absurd (by rw [← e17]; exact z) c, fun _ => hK⟩⟩
theorem tx_of {o μ μ' : jx_St} (h : Tx o μ) (e3 : μ' 3 = μ 3) (e6 : μ' 6 = μ 6) : Tx o μ' := by unfold Tx at h ⊢; rw [e3, e6]; exact h
theorem hh_of {h h0 h1 h2 h3 μ μ' : jx_St} (h' : Hh h h0 h1 h2 h3 μ) (e2 : μ' 2 = μ 2) (e4 : μ' 4 = μ 4) (e5 : μ' 5 = μ 5) : Hh h h0 h1 h2 h3 μ' := by unfold Hh hrow at h' ⊢; rw [e2, e4, e5]; exact h'
/-- a change is told -/
theorem m_end {Q : Int → jx_St → Prop} {ρ τ ο η h0 h1 h2 h3 μ : jx_St} (hI : Inv τ) (hA : Ag τ μ) (h10 : τ 10 0 = μ 0 3) (hC : Cr ρ μ) (h32 : ρ 8 0 ≤ 32) (hT : Tx ο μ) (hH : Hh η h0 h1 h2 h3 μ) (h : ∀ b, (∀ sB sS sU sV sW, RRd sB τ sS ρ sU sV sW η h0 h1 h2 h3 ο b) → Q (τ 2 (τ 7 0) + 1) b) : wp_M_tells (fun s => wp_M_levels (fun r => Q r s) s) μ := by
  obtain ⟨b, ⟨b1, b2⟩, bg⟩ := g_tells hC h32
  have e0 : b 0 = μ 0 := b1 0 (by decide) (by decide) (by decide)
  refine bg _ (m_levels hI (hA.of e0) (h b (fun sB sS sU sV sW => ⟨⟨hI, hA.of e0, by rw [e0]; exact h10⟩, b2, tx_of hT (b1 3 (by decide) (by decide) (by decide)) (b1 6 (by decide) (by decide) (by decide)), hh_of hH (b1 2 (by decide) (by decide) (by decide)) (b1 4 (by decide) (by decide) (by decide)) (b1 5 (by decide) (by decide) (by decide))⟩)))
theorem bs_bo_w {a b c d : Int} (hw : Wn a b c d) : bs (bo a b c d) 0 = a ∧ bs (bo a b c d) 1 = b ∧ bs (bo a b c d) 2 = c ∧ bs (bo a b c d) 3 = d := by
  obtain ⟨h1, h2, h3, h4, h5, h6⟩ := hw
  obtain ⟨e0, e1, e2, e3, _⟩ := bs_bo (a := a) (b := b) (c := c) (d := d) ⟨by omega, by omega⟩ ⟨by omega, by omega⟩ ⟨by omega, by omega⟩ ⟨by omega, by omega⟩
  exact ⟨e0, e1, e2, e3⟩
theorem step_put : st_put RRd := by
  intro sB sT sS sC sU sV sW sH sH0 sH1 sH2 sH3 sO sM a1 a2 a3 a4 a5 hR r1 r2 r3 r4 r5
  obtain ⟨hRT, hC, hT, hHh⟩ := id hR
  obtain ⟨hI, hA, h10⟩ := id hRT
  by_cases k1 : nb a1
  · refine p_isBox_t k1 (c1 ?_)
    by_cases k2 : Wn a2 a3 a4 a5
    · refine p_isWindow_t k2 (c1 ?_)
      by_cases k3 : sT 0 a1 = -1
      · obtain ⟨b, ⟨b1, b2⟩, bg⟩ := m_copy (μ := sM)
        have e0 : b 0 = sM 0 := b1 0 (by decide)
        refine p_has_f hI k1 k3 (c0 (lock_record (μ := b) (hRT.of e0) (fun j j0 j1 => by rw [b2 j j0 j1, e0]) (hh_of hHh (b1 2 (by decide)) (b1 4 (by decide)) (b1 5 (by decide))) (fun η' t0 t1 t2 t3 μ' hH' km goR => ?_)))
        have e0' : μ' 0 = sM 0 := by rw [km 0 (by decide) (by decide) (by decide), e0]
        obtain ⟨q0, q1, q2, q3⟩ := bs_bo_w k2
        refine p_of (lock_bringIn hI (hA.of e0') k1 k3 (vb_bo k2) (fun ρ' ψ' τ μ2 y1 y2 y3 y4 y5 y6 y7 y8 => p_height y1.1.1.1.1 ?_))
        rw [q0, q1, q2, q3] at y8
        refine m_isBox_t k1 (c1 (m_areSides_t k2 (c1 (m_there_f hA k1 k3 (c0 (bg _ (goR _ (y8 _ ?_))))))))
        refine m_end y1 y2 (by rw [y4, y7.2, e0']; exact h10) y5 (by omega) (tx_of hT ?_ ?_) (hh_of hH' (y7.1 2 (by decide)) (y7.1 4 (by decide)) (y7.1 5 (by decide))) (fun b' hb' => ⟨rfl, hb' _ _ _ _ _⟩)
        · rw [y7.1 3 (by decide), km 3 (by decide) (by decide) (by decide), b1 3 (by decide)]
        · rw [y7.1 6 (by decide), km 6 (by decide) (by decide) (by decide), b1 6 (by decide)]
      · exact p_has_t hI k1 k3 (c1 (m_isBox_t k1 (c1 (m_areSides_t k2 (c1 (m_there_t hA k1 k3 (c1 ⟨rfl, hR⟩)))))))
    · exact p_isWindow_f k2 r2 r3 r4 r5 (c0 (m_isBox_t k1 (c1 (m_areSides_f k2 r2 r3 r4 r5 (c0 ⟨rfl, hR⟩)))))
  · exact p_isBox_f k1 r1 (c0 (m_isBox_f k1 r1 (c0 ⟨rfl, hR⟩)))
theorem step_take : st_take RRd := by
  intro sB sT sS sC sU sV sW sH sH0 sH1 sH2 sH3 sO sM a1 hR r1
  obtain ⟨hRT, hC, hT, hHh⟩ := id hR
  obtain ⟨hI, hA, h10⟩ := id hRT
  by_cases k1 : nb a1
  · refine p_isBox_t k1 (c1 ?_)
    by_cases k3 : sT 0 a1 = -1
    · exact p_has_f hI k1 k3 (c0 (m_isBox_t k1 (c1 (m_there_f hA k1 k3 (c0 ⟨rfl, hR⟩)))))
    · obtain ⟨b, ⟨b1, b2⟩, bg⟩ := m_copy (μ := sM)
      have e0 : b 0 = sM 0 := b1 0 (by decide)
      refine p_has_t hI k1 k3 (c1 (lock_record (μ := b) (hRT.of e0) (fun j j0 j1 => by rw [b2 j j0 j1, e0]) (hh_of hHh (b1 2 (by decide)) (b1 4 (by decide)) (b1 5 (by decide))) (fun η' t0 t1 t2 t3 μ' hH' km goR => ?_)))
      have e0' : μ' 0 = sM 0 := by rw [km 0 (by decide) (by decide) (by decide), e0]
      refine lock_takeOut hI (hA.of e0') (by rw [e0']; exact h10) k1 k3 (fun ρ' ψ' τ μ2 y1 y2 y3 y4 y5 y6 y7 y8 => p_height y1.1.1.1.1 ?_)
      refine m_isBox_t k1 (c1 (m_there_t hA k1 k3 (c1 (bg _ (goR _ (y8 _ ?_))))))
      refine m_end y1 y2 y4 y5 y6 (tx_of hT ?_ ?_) (hh_of hH' (y7 2 (by decide) (by decide)) (y7 4 (by decide) (by decide)) (y7 5 (by decide) (by decide))) (fun b' hb' => ⟨rfl, hb' _ _ _ _ _⟩)
      · rw [y7 3 (by decide) (by decide), km 3 (by decide) (by decide) (by decide), b1 3 (by decide)]
      · rw [y7 6 (by decide) (by decide), km 6 (by decide) (by decide) (by decide), b1 6 (by decide)]
  · exact p_isBox_f k1 r1 (c0 (m_isBox_f k1 r1 (c0 ⟨rfl, hR⟩)))
