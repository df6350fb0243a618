/-! ===== the pure part: calls that look at a box, a node, a level, a court ===== -/
theorem step_boxOf : st_boxOf RRd := by
  intro sB sT sS sC sU sV sW sH sH0 sH1 sH2 sH3 sO sM a1 a2 hR r1 r2
  obtain ⟨hI, hA, h3⟩ := id hR.1
  by_cases c1' : nb a1
  · refine p_isBox_t c1' (c1 ?_)
    by_cases c2' : 0 ≤ a2 ∧ a2 ≤ 5
    · refine p_upTo_t c2'.1 c2'.2 (R_lit 5 (by decide)) (c1 ?_)
      by_cases c3' : sT 0 a1 = -1
      · exact p_has_f hI c1' c3' (c0 (m_isBox_t c1' (c1 (m_in_t c2'.1 c2'.2 (R_lit 0 (by decide)) (R_lit 5 (by decide)) (c1 (m_there_f hA c1' c3' (c0 ⟨rfl, hR⟩)))))))
      · refine p_has_t hI c1' c3' (c1 (p_homeOf c1' ⟨r2, fun e4 => ?_, fun n4 => ⟨r2, fun e5 => ?_, fun n5 => ?_⟩⟩))
        · have hl : lvn sT (sT 1 a1) ∧ sT 2 (sT 1 a1) = 0 ∧ a1 ∈ kids sT (sT 1 a1) := by
            have ha : alv sT a1 0 := Or.inl ⟨rfl, c1', c3'⟩
            have em : hm sT a1 0 = sT 1 a1 := by unfold hm; rw [if_pos rfl]
            have := (hI.1.2.2.2.2.2.2.1 a1 0 ha).resolve_left List.not_mem_nil
            rw [em] at this
            exact this
          refine p_placeOf hI.1 hl.1 (fun ψ' ψs S A B hS hs => ?_)
          obtain ⟨b, hb, hg⟩ := m_placeOf hI.1 hA hS hl.1 hs
          refine m_isBox_t c1' (c1 (m_in_t c2'.1 c2'.2 (R_lit 0 (by decide)) (R_lit 5 (by decide)) (c1 (m_there_t hA c1' c3' (c1 ⟨r2, fun z => absurd z (by omega), fun _ => m_holder hI.1 hA hl.1 hl.2.1 hl.2.2 c1'.R ⟨r2, fun z => absurd z (by omega), fun _ => ⟨r2, fun _ => hg _ ⟨rfl, rr_of hR (fun z hz => hb z (rr_ne hz rfl) (rr_ne hz rfl) (rr_ne hz rfl))⟩, fun z => absurd e4 z⟩⟩⟩)))))
        · have hl : lvn sT (sT 1 a1) ∧ sT 2 (sT 1 a1) = 0 ∧ a1 ∈ kids sT (sT 1 a1) := by
            have ha : alv sT a1 0 := Or.inl ⟨rfl, c1', c3'⟩
            have em : hm sT a1 0 = sT 1 a1 := by unfold hm; rw [if_pos rfl]
            have := (hI.1.2.2.2.2.2.2.1 a1 0 ha).resolve_left List.not_mem_nil
            rw [em] at this
            exact this
          obtain ⟨k, k0, k1, hk⟩ := mem_kids.mp hl.2.2
          have s5 := hI.1.sh.1 _ hl.1
          have hkf : ∀ j, 0 ≤ j → j < k → th sT (sT 1 a1) j ≠ a1 := fun j j0 j1 e => by
            have := nodup_th (hI.1.2.2.2.2.2.1 _ hl.1) j0 (by omega) k0 k1 (e.trans hk.symm)
            omega
          refine p_placeIn hl.1.1 s5.2.1 c1'.R (fun j j0 j1 => hI.1.th_R hl.1 j0 j1) k0 k1 hk hkf ?_
          refine m_isBox_t c1' (c1 (m_in_t c2'.1 c2'.2 (R_lit 0 (by decide)) (R_lit 5 (by decide)) (c1 (m_there_t hA c1' c3' (c1 ⟨r2, fun z => absurd z (by omega), fun _ => m_holder hI.1 hA hl.1 hl.2.1 hl.2.2 c1'.R ⟨r2, fun z => absurd z (by omega), fun _ => ⟨r2, fun z => absurd z n4, fun _ => m_placeIn hA hl.1 s5.2.1 c1'.R (fun j j0 j1 => hI.1.th_R hl.1 j0 j1) k0 k1 hk hkf ⟨rfl, hR⟩⟩⟩⟩)))))
        · have h4 : a2 < 4 := by omega
          have b0 := c1'.1
          have b1 := c1'.2
          refine p_hull (R_lit 0 (by decide)) (by unfold tv; rw [if_pos rfl]; exact c1') (p_side ?_)
          rw [hv_0]
          refine m_isBox_t c1' (c1 (m_in_t c2'.1 c2'.2 (R_lit 0 (by decide)) (R_lit 5 (by decide)) (c1 (m_there_t hA c1' c3' (c1 ⟨r2, fun _ => ⟨r2, fun _ => ⟨⟨by omega, by show 35 + 4 * a1 + a2 < 439; omega⟩, ?_⟩, fun z => absurd h4 z⟩, fun z => absurd h4 z⟩)))))
          exact ⟨(hA.2.2.2.2.2.1 a1 a2 c1' c3' c2'.1 h4).symm, hR⟩
    · exact p_upTo_f c2' r2 (R_lit 5 (by decide)) (c0 (m_isBox_t c1' (c1 (m_in_f c2' r2 (R_lit 0 (by decide)) (R_lit 5 (by decide)) (c0 ⟨rfl, hR⟩)))))
  · exact p_isBox_f c1' r1 (c0 (m_isBox_f c1' r1 (c0 ⟨rfl, hR⟩)))
theorem step_overlaps : st_overlaps RRd := by
  intro sB sT sS sC sU sV sW sH sH0 sH1 sH2 sH3 sO sM a1 hR r1
  obtain ⟨hI, hA, h3⟩ := id hR.1
  have l3 := hI.1.1.2.1
  have l0 := hI.1.1.1.2
  have hR1 : jx_R (sT 2 (sT 7 0) + 1) := jx_inR (by omega) (by omega)
  refine ⟨r1, fun q => ?_, fun q => p_height hI.1.1.1.1 ⟨r1, hR1, fun y => ?_, fun y => ?_⟩⟩
  · exact ⟨r1, fun _ => ⟨rfl, hR⟩, fun z => absurd q z⟩
  · refine p_overlapsOf hI.1 hI.2.1 r1 (fun ψ' ψs S hS => ?_)
    obtain ⟨b, hb, hg⟩ := g_overlapsOf (l := a1) hI.1 hI.2.1 hA hS ⟨by omega, by omega⟩
    exact ⟨r1, fun z => absurd z q, fun _ => m_levels hI hA ⟨r1, hR1, fun _ => hg _ ⟨rfl, rr_of hR (fun z hz => hb z (rr_ne hz rfl) (rr_ne hz rfl) (rr_ne hz rfl) (rr_ne hz rfl) (rr_ne hz rfl) (rr_ne hz rfl) (rr_ne hz rfl))⟩, fun z => absurd y z⟩⟩
  · exact ⟨r1, fun z => absurd z q, fun _ => m_levels hI hA ⟨r1, hR1, fun z => absurd z y, fun _ => ⟨rfl, hR⟩⟩⟩
theorem step_overlap : st_overlap RRd := by
  intro sB sT sS sC sU sV sW sH sH0 sH1 sH2 sH3 sO sM a1 a2 hR r1 r2
  obtain ⟨hI, hA, h3⟩ := id hR.1
  by_cases c1' : nb a1
  · refine p_isBox_t c1' (c1 ?_)
    by_cases c2' : nb a2
    · refine p_isBox_t c2' (c1 ?_)
      by_cases d1 : sT 0 a1 = -1
      · exact p_has_f hI c1' d1 (c0 (m_isBox_t c1' (c1 (m_isBox_t c2' (c1 (m_there_f hA c1' d1 (c0 ⟨rfl, hR⟩)))))))
      · refine p_has_t hI c1' d1 (c1 ?_)
        by_cases d2 : sT 0 a2 = -1
        · exact p_has_f hI c2' d2 (c0 (m_isBox_t c1' (c1 (m_isBox_t c2' (c1 (m_there_t hA c1' d1 (c1 (m_there_f hA c2' d2 (c0 ⟨rfl, hR⟩)))))))))
        · refine p_has_t hI c2' d2 (c1 (p_hull (R_lit 0 (by decide)) (by unfold tv; rw [if_pos rfl]; exact c1') (p_hull (R_lit 0 (by decide)) (by unfold tv; rw [if_pos rfl]; exact c2') ?_)))
          rw [hv_0, hv_0]
          refine p_common (hI.bR c1') (hI.bR c2') ?_
          obtain ⟨b, ⟨x1, x2⟩, xg⟩ := g_takes_one (x := a1) (l := 0) hA ⟨fun _ => ⟨c1', d1⟩, fun z => absurd rfl z⟩ (R_lit 0 (by decide))
          obtain ⟨b', ⟨y1, y2⟩, yg⟩ := g_takes_two (σ := sT) (x := a2) (l := 0) (hA.of (x1 0 (by decide))) ⟨fun _ => ⟨c2', d2⟩, fun z => absurd rfl z⟩ (R_lit 0 (by decide))
          rw [hv_0] at x2 y2
          have x2' : Ms b' 9 (sT 0 a1) := fun q q0 q1 => by rw [y1 9 (by decide)]; exact x2 q q0 q1
          exact m_isBox_t c1' (c1 (m_isBox_t c2' (c1 (m_there_t hA c1' d1 (c1 (m_there_t hA c2' d2 (c1 (xg _ (yg _ (m_common (hI.vb c1' d1) (hI.vb c2' d2) x2' y2 ⟨rfl, rr_of hR (fun z hz => by rw [y1 z (rr_ne hz rfl), x1 z (rr_ne hz rfl)])⟩))))))))))
    · exact p_isBox_f c2' r2 (c0 (m_isBox_t c1' (c1 (m_isBox_f c2' r2 (c0 ⟨rfl, hR⟩)))))
  · exact p_isBox_f c1' r1 (c0 (m_isBox_f c1' r1 (c0 ⟨rfl, hR⟩)))
theorem step_court : st_court RRd := by
  intro sB sT sS sC sU sV sW sH sH0 sH1 sH2 sH3 sO sM a1 a2 hR r1 r2
  obtain ⟨k1, k2, k3, k4⟩ := id hR.2.1
  have cR : jx_R (sC 8 0) := jx_inR (by omega) (by omega)
  refine ⟨r1, fun q => ⟨r1, fun _ => ⟨rfl, hR⟩, fun z => absurd q z⟩, fun q => ?_⟩
  by_cases c2' : 0 ≤ a2 ∧ a2 ≤ 1
  · refine p_upTo_t c2'.1 c2'.2 (R_lit 1 (by decide)) (c1 ⟨r1, cR, fun y => ⟨r2, fun e => ⟨r1, ?_⟩, fun e => ⟨r1, ?_⟩⟩, fun y => ?_⟩)
    · rw [jx_at_in (by omega) (by show a1 < 64; omega)]
      refine ⟨r1, fun z => absurd z q, fun _ => m_in_t c2'.1 c2'.2 (R_lit 0 (by decide)) (R_lit 1 (by decide)) (c1 ⟨r1, by rw [k1]; exact cR, fun _ => ⟨r2, fun _ => ⟨⟨by omega, by show a1 < 48; omega⟩, (k4 a1 (by omega) y).1.symm, hR⟩, fun z => absurd e z⟩, fun z => absurd (by rw [k1]; exact y) z⟩)⟩
    · rw [jx_at_in (by omega) (by show a1 < 64; omega)]
      refine ⟨r1, fun z => absurd z q, fun _ => m_in_t c2'.1 c2'.2 (R_lit 0 (by decide)) (R_lit 1 (by decide)) (c1 ⟨r1, by rw [k1]; exact cR, fun _ => ⟨r2, fun z => absurd z e, fun _ => ⟨⟨by omega, by show a1 < 48; omega⟩, (k4 a1 (by omega) y).2.symm, hR⟩⟩, fun z => absurd (by rw [k1]; exact y) z⟩)⟩
    · exact ⟨r1, fun z => absurd z q, fun _ => m_in_t c2'.1 c2'.2 (R_lit 0 (by decide)) (R_lit 1 (by decide)) (c1 ⟨r1, by rw [k1]; exact cR, fun z => absurd (by rw [← k1]; exact z) y, fun _ => ⟨rfl, hR⟩⟩)⟩
  · exact p_upTo_f c2' r2 (R_lit 1 (by decide)) (c0 ⟨r1, fun z => absurd z q, fun _ => m_in_f c2' r2 (R_lit 0 (by decide)) (R_lit 1 (by decide)) (c0 ⟨rfl, hR⟩)⟩)
