/-! ===== the pure part: the reference's court ===== -/
theorem ag_8 {σ μ : jx_St} (hA : Ag σ μ) : Ag (jx_su σ 8 0 (σ 8 0 + 1)) (jx_su μ 0 1 (μ 0 1 + 1)) := by
  have en : ∀ q i, q ≠ 8 → jx_su σ 8 0 (σ 8 0 + 1) q i = σ q i := fun q i h => jx_su_ne h
  have fin : ∀ j, jx_su μ 0 1 (μ 0 1 + 1) 0 j = if j = 1 then μ 0 1 + 1 else μ 0 j := fun j => jx_su_same
  have lv' : ∀ m, lvn (jx_su σ 8 0 (σ 8 0 + 1)) m ↔ lvn σ m := fun m => by unfold lvn; rw [en 2 _ (by decide)]
  obtain ⟨c0, c1, c2, c3, c4, c5, c6, c7⟩ := hA
  refine ⟨?_, fun m m0 m1 => ?_, fun m hm => ?_, fun m k hm k0 k1 => ?_, fun c hc => ?_, fun c k hc hne k0 k1 => ?_, ?_, ?_⟩
  · rw [fin, if_neg (by omega), c0, en 7 _ (by decide)]
  · rw [fin, if_neg (by omega), c1 m m0 m1, en 2 _ (by decide)]
  · have := hm.1.1
    rw [fin, if_neg (by omega), c2 m ((lv' m).mp hm), en 3 _ (by decide)]
  · have := hm.1.1
    rw [en 3 _ (by decide)] at k1
    rw [fin, if_neg (by omega), c3 m k ((lv' m).mp hm) k0 k1]
    exact (en 6 _ (by decide)).symm
  · have := hc.1
    rw [fin, if_neg (by omega), c4 c hc, en 0 _ (by decide)]
  · have := hc.1
    rw [en 0 _ (by decide)] at hne ⊢
    rw [fin, if_neg (by omega), c5 c k hc hne k0 k1]
  · rw [fin, if_pos rfl, c6, jx_su_eq]
  · rw [fin, if_neg (by omega), c7, en 9 _ (by decide)]
theorem m_waits {Q : jx_St → Prop} {μ : jx_St} {x l : Int} (h0 : 0 ≤ μ 13 0) (h1 : μ 13 0 < 24) (h : ∀ b : jx_St, b = jx_su (jx_su (jx_su μ 11 (μ 13 0) x) 12 (μ 13 0) l) 13 0 (μ 13 0 + 1) → Q b) : wp_M_waits Q μ x l := by
  have e : jx_su μ 11 (μ 13 0) x 13 0 = μ 13 0 := jx_su_ne (by decide)
  have e2 : jx_su (jx_su μ 11 (μ 13 0) x) 12 (μ 13 0) l 13 0 = μ 13 0 := by rw [jx_su_ne (by decide), e]
  unfold wp_M_waits
  rw [e, e2]
  exact ⟨⟨h0, h1⟩, ⟨h0, h1⟩, h _ rfl⟩
theorem far_order {σ : jx_St} {n : Int} : apF (hv σ (th σ n (cne σ n)) (σ 2 n)) (σ 4 n) ≤ apF (hv σ (th σ n (cfa σ n)) (σ 2 n)) (σ 4 n) ∧ (apF (hv σ (th σ n (cne σ n)) (σ 2 n)) (σ 4 n) = apF (hv σ (th σ n (cfa σ n)) (σ 2 n)) (σ 4 n) → cne σ n < cfa σ n) := by
  obtain ⟨a0, a1, b0, b1, ab⟩ := cfn σ n
  have h1 := frF_bd (σ := σ) (n := n) (but := -1) 5
  have e := (h1.2.2.2.2.2.1 a0).2
  have h2 := h1.2.2.2.2.2.2 (cne σ n) b0 b1 (by omega)
  rw [e] at h2
  refine ⟨h2.2.1, fun q => ?_⟩
  have := h2.2.2 q
  have : cne σ n ≤ cfa σ n := this
  omega
theorem g_court {σ μ : jx_St} {P : List (Int × Int)} {n : Int} (hW : Ws σ P []) (hH : Hs σ []) (hA : Ag σ μ) (hn : lvn σ n) (h5 : σ 3 n = 5) (hw : 0 ≤ μ 13 0 ∧ μ 13 0 < 22) (hc : 0 ≤ μ 17 0 ∧ μ 17 0 < 48) : ∃ (b : jx_St) (B : Int → Int), (Bel σ B ∧ Ag (coS σ n) b ∧ b 0 3 = μ 0 3 ∧ (∀ z, z ≠ 0 → z ≠ 7 → z ≠ 8 → z ≠ 11 → z ≠ 12 → z ≠ 13 → z ≠ 14 → z ≠ 15 → z ≠ 16 → z ≠ 17 → b z = μ z) ∧ b 14 0 = jx_or (μ 14 0) (jx_shl 1 (σ 2 n)) ∧ b 17 0 = μ 17 0 + 1 ∧ (∀ j, b 15 j = if j = μ 17 0 then σ 2 n else μ 15 j) ∧ (∀ j, b 16 j = if j = μ 17 0 then (if σ 2 n = 0 then 2 else B (th σ n (cfa σ n)) + B (th σ n (cne σ n))) else μ 16 j) ∧ b 13 0 = μ 13 0 + 2 ∧
      (∀ j, b 11 j = if j = μ 13 0 + 1 then th σ n (cne σ n) else if j = μ 13 0 then th σ n (cfa σ n) else μ 11 j) ∧ (∀ j, b 12 j = if j = μ 13 0 + 1 then σ 2 n else if j = μ 13 0 then σ 2 n else μ 12 j)) ∧ ∀ (Q : jx_St → Prop), Q b → wp_M_court Q μ n := by
  have hV := vh_of hW hH
  have hS5 : ∀ m, lvn σ m → 0 ≤ σ 3 m ∧ σ 3 m ≤ 5 := fun m hm => ⟨(hW.sh.1 m hm).1, (hW.sh.1 m hm).2.1⟩
  obtain ⟨a0, a1, b0, b1, ab⟩ := cfn σ n
  obtain ⟨o1, o2⟩ := far_order (σ := σ) (n := n)
  obtain ⟨μ1, ⟨l1, l2⟩, lg⟩ := g_lay hW hH hA
  have hA1 : Ag σ μ1 := hA.of (l1 0 (by decide) (by decide))
  have hsd : ∀ k, 0 ≤ k → k < σ 3 n → sdk σ μ1 (th σ n k) (σ 2 n) := fun k k0 k1 => sdk_row hW hn (fun y hy h0 => by
    have h2 := hW.kid hn h0 hy
    exact (l2 y h2.1).1 (by have := ((hW.2.2.2.1 y h2.1).2.2.resolve_left List.not_mem_nil).1 h2.2.2.2; omega)) k0 k1
  have hLn : 1 ≤ σ 3 n → ∀ i, 0 ≤ i → i < 4 → μ1 7 (4 * n + i) = bs (σ 4 n) i := (l2 n hn).1
  have ef : (frF σ n (-1) (σ 3 n).toNat).1 = cfa σ n := by rw [h5]; rfl
  have eg : (frF σ n (cfa σ n) (σ 3 n).toNat).1 = cne σ n := by rw [h5]; rfl
  have m17 : μ1 17 0 = μ 17 0 := by rw [l1 17 (by decide) (by decide)]
  -- the state that is noted
  generalize hval : (if σ 2 n = 0 then 2 else μ1 8 (th σ n (cfa σ n)) + μ1 8 (th σ n (cne σ n))) = val
  have hA2 : Ag (jx_su σ 8 0 (σ 8 0 + 1)) (jx_su (jx_su (jx_su (jx_su (jx_su μ1 14 0 (jx_or (μ1 14 0) (jx_shl 1 (σ 2 n)))) 15 (μ 17 0) (σ 2 n)) 16 (μ 17 0) val) 17 0 (μ 17 0 + 1)) 0 1 (μ1 0 1 + 1)) := by
    have h := ag_8 (hA1.of (μ' := jx_su (jx_su (jx_su (jx_su μ1 14 0 (jx_or (μ1 14 0) (jx_shl 1 (σ 2 n)))) 15 (μ 17 0) (σ 2 n)) 16 (μ 17 0) val) 17 0 (μ 17 0 + 1)) (by funext j; rw [jx_su_ne (by decide), jx_su_ne (by decide), jx_su_ne (by decide), jx_su_ne (by decide)]))
    have e : jx_su (jx_su (jx_su (jx_su μ1 14 0 (jx_or (μ1 14 0) (jx_shl 1 (σ 2 n)))) 15 (μ 17 0) (σ 2 n)) 16 (μ 17 0) val) 17 0 (μ 17 0 + 1) 0 1 = μ1 0 1 := by rw [jx_su_ne (by decide), jx_su_ne (by decide), jx_su_ne (by decide), jx_su_ne (by decide)]
    rw [e] at h
    exact h
  generalize hω : jx_su (jx_su (jx_su (jx_su (jx_su μ1 14 0 (jx_or (μ1 14 0) (jx_shl 1 (σ 2 n)))) 15 (μ 17 0) (σ 2 n)) 16 (μ 17 0) val) 17 0 (μ 17 0 + 1)) 0 1 (μ1 0 1 + 1) = ω at hA2
  have sr : ∀ q i, q ≠ 8 → jx_su σ 8 0 (σ 8 0 + 1) q i = σ q i := fun q i hq => jx_su_ne hq
  have hS2 : ∀ m, lvn (jx_su σ 8 0 (σ 8 0 + 1)) m → 0 ≤ jx_su σ 8 0 (σ 8 0 + 1) 3 m ∧ jx_su σ 8 0 (σ 8 0 + 1) 3 m ≤ 5 := fun m hm => by
    rw [sr 3 _ (by decide)]
    exact hS5 m (by unfold lvn at hm ⊢; rw [sr 2 _ (by decide)] at hm; exact hm)
  have hn2 : lvn (jx_su σ 8 0 (σ 8 0 + 1)) n := ⟨hn.1, by rw [sr 2 _ (by decide)]; exact hn.2⟩
  obtain ⟨μ3, ⟨c1, c2, c3⟩, cg⟩ := g_drops (p := max (cfa σ n) (cne σ n)) hA2 hS2 hn2 ⟨by omega, by rw [sr 3 _ (by decide), h5]; omega⟩
  have r3 : ∀ m, rmF (jx_su σ 8 0 (σ 8 0 + 1)) n (max (cfa σ n) (cne σ n)) 3 m = if m = n then 4 else σ 3 m := fun m => by
    simp only [rmF]
    rw [if_neg (by decide), if_pos trivial, sr 3 _ (by decide), sr 3 _ (by decide), h5]
    rfl
  have r2 : ∀ m, rmF (jx_su σ 8 0 (σ 8 0 + 1)) n (max (cfa σ n) (cne σ n)) 2 m = σ 2 m := fun m => by rw [rmF_2]; exact sr 2 _ (by decide)
  obtain ⟨μ4, ⟨d1, d2, d3⟩, dg⟩ := g_drops (p := min (cfa σ n) (cne σ n)) c2 (fun m hm => by
    rw [r3]
    split
    · exact ⟨by decide, by decide⟩
    · exact hS5 m (by unfold lvn at hm ⊢; rw [r2] at hm; exact hm)) ⟨hn.1, by rw [r2]; exact hn.2⟩ ⟨by omega, by rw [r3, if_pos rfl]; omega⟩
  have en : ∀ z, z ≠ 0 → μ4 z = ω z := fun z hz => by rw [d1 z hz, c1 z hz]
  have ew : ∀ z j, z ≠ 0 → z ≠ 14 → z ≠ 15 → z ≠ 16 → z ≠ 17 → ω z j = μ1 z j := fun z j h0 h14 h15 h16 h17 => by rw [← hω, jx_su_ne h0, jx_su_ne h17, jx_su_ne h16, jx_su_ne h15, jx_su_ne h14]
  have w13 : μ4 13 0 = μ 13 0 := by rw [en 13 (by decide), ew 13 0 (by decide) (by decide) (by decide) (by decide) (by decide), l1 13 (by decide) (by decide)]
  generalize hb1 : jx_su (jx_su (jx_su μ4 11 (μ 13 0) (th σ n (cfa σ n))) 12 (μ 13 0) (σ 2 n)) 13 0 (μ 13 0 + 1) = β
  have bn : ∀ z j, z ≠ 11 → z ≠ 12 → z ≠ 13 → β z j = μ4 z j := fun z j h1 h2 h3 => by rw [← hb1, jx_su_ne h3, jx_su_ne h2, jx_su_ne h1]
  have b13 : β 13 0 = μ 13 0 + 1 := by rw [← hb1]; exact jx_su_eq
  have fn : ∀ z j, z ≠ 11 → z ≠ 12 → z ≠ 13 → jx_su (jx_su (jx_su β 11 (μ 13 0 + 1) (th σ n (cne σ n))) 12 (μ 13 0 + 1) (σ 2 n)) 13 0 (μ 13 0 + 1 + 1) z j = μ4 z j := fun z j h1 h2 h3 => by rw [jx_su_ne h3, jx_su_ne h2, jx_su_ne h1, bn z j h1 h2 h3]
  refine ⟨jx_su (jx_su (jx_su β 11 (μ 13 0 + 1) (th σ n (cne σ n))) 12 (μ 13 0 + 1) (σ 2 n)) 13 0 (μ 13 0 + 1 + 1), μ1 8, ⟨l2.bel, d2.of (by funext j; exact fn 0 j (by decide) (by decide) (by decide)), ?_, fun z h0 h7 h8 h11 h12 h13 h14 h15 h16 h17 => ?_, ?_, ?_, fun j => ?_, fun j => ?_, ?_, fun j => ?_, fun j => ?_⟩, fun Q hQ => ?_⟩
  · rw [fn 0 _ (by decide) (by decide) (by decide), d3, c3, ← hω, jx_su_same, if_neg (by decide), jx_su_ne (by decide), jx_su_ne (by decide), jx_su_ne (by decide), jx_su_ne (by decide), l1 0 (by decide) (by decide)]
  · funext j; rw [fn z j h11 h12 h13, en z h0, ew z j h0 h14 h15 h16 h17, l1 z h7 h8]
  · rw [fn 14 _ (by decide) (by decide) (by decide), en 14 (by decide), ← hω, jx_su_ne (by decide), jx_su_ne (by decide), jx_su_ne (by decide), jx_su_ne (by decide), jx_su_eq, l1 14 (by decide) (by decide)]
  · rw [fn 17 _ (by decide) (by decide) (by decide), en 17 (by decide), ← hω, jx_su_ne (by decide), jx_su_eq]
  · rw [fn 15 _ (by decide) (by decide) (by decide), en 15 (by decide), ← hω, jx_su_ne (by decide), jx_su_ne (by decide), jx_su_ne (by decide), jx_su_same, jx_su_ne (by decide), l1 15 (by decide) (by decide)]
  · rw [fn 16 _ (by decide) (by decide) (by decide), en 16 (by decide), ← hω, jx_su_ne (by decide), jx_su_ne (by decide), jx_su_same, jx_su_ne (by decide), jx_su_ne (by decide), l1 16 (by decide) (by decide), hval]
  · rw [jx_su_eq]; omega
  · rw [jx_su_ne (by decide), jx_su_ne (by decide), jx_su_same, ← hb1, jx_su_ne (by decide), jx_su_ne (by decide), jx_su_same, en 11 (by decide), ew 11 _ (by decide) (by decide) (by decide) (by decide) (by decide), l1 11 (by decide) (by decide)]
  · rw [jx_su_ne (by decide), jx_su_same, jx_su_ne (by decide), ← hb1, jx_su_ne (by decide), jx_su_same, jx_su_ne (by decide), en 12 (by decide), ew 12 _ (by decide) (by decide) (by decide) (by decide) (by decide), l1 12 (by decide) (by decide)]
  · have fa := m_farOf (Q := fun r => r = apF (hv σ (th σ n (cfa σ n)) (σ 2 n)) (σ 4 n)) hW hA1 hn a0 (by omega) (hsd _ a0 (by omega)) (hLn (by omega)) rfl
    have ba := apF_bd (hv σ (th σ n (cfa σ n)) (σ 2 n)) (σ 4 n)
    have bb := apF_bd (hv σ (th σ n (cne σ n)) (σ 2 n)) (σ 4 n)
    have ra : jx_R (apF (hv σ (th σ n (cfa σ n)) (σ 2 n)) (σ 4 n)) := jx_inR (by omega) (by omega)
    have rb : jx_R (apF (hv σ (th σ n (cne σ n)) (σ 2 n)) (σ 4 n)) := jx_inR (by omega) (by omega)
    have mfa : ∀ (R : Int → Prop), R (apF (hv σ (th σ n (cfa σ n)) (σ 2 n)) (σ 4 n)) → wp_M_farOf R μ1 n (cfa σ n) := fun R h => m_farOf hW hA1 hn a0 (by omega) (hsd _ a0 (by omega)) (hLn (by omega)) h
    have mfb : ∀ (R : Int → Prop), R (apF (hv σ (th σ n (cne σ n)) (σ 2 n)) (σ 4 n)) → wp_M_farOf R μ1 n (cne σ n) := fun R h => m_farOf hW hA1 hn b0 (by omega) (hsd _ b0 (by omega)) (hLn (by omega)) h
    have last : wp_M_court_67 Q n μ1 (σ 2 n) (cfa σ n) (cne σ n) := by
      refine ⟨jx_inR (by decide) (by decide), fun _ => m_thing hA1 hn (by omega) b0 (by omega) ⟨jx_inR (by decide) (by decide), fun _ => m_thing hA1 hn (by omega) a0 (by omega) ?_, fun z => absurd rfl z⟩, fun z => absurd rfl z⟩
      have e17 : jx_su μ1 14 0 (jx_or (μ1 14 0) (jx_shl 1 (σ 2 n))) 17 0 = μ 17 0 := by rw [jx_su_ne (by decide), m17]
      have e17b : jx_su (jx_su μ1 14 0 (jx_or (μ1 14 0) (jx_shl 1 (σ 2 n)))) 15 (μ 17 0) (σ 2 n) 17 0 = μ 17 0 := by rw [jx_su_ne (by decide), e17]
      have e8 : ∀ j, jx_su (jx_su μ1 14 0 (jx_or (μ1 14 0) (jx_shl 1 (σ 2 n)))) 15 (μ 17 0) (σ 2 n) 8 j = μ1 8 j := fun j => by rw [jx_su_ne (by decide), jx_su_ne (by decide)]
      rw [e17, e17b, e8, e8]
      have main : ∀ v, v = val → wp_M_court_159 Q n (jx_su (jx_su μ1 14 0 (jx_or (μ1 14 0) (jx_shl 1 (σ 2 n)))) 15 (μ 17 0) (σ 2 n)) (σ 2 n) (cfa σ n) (cne σ n) (th σ n (cne σ n)) (th σ n (cfa σ n)) (μ 17 0) v := by
        intro v hv2
        subst hv2
        refine ⟨hc, m_most (jx_inR (by omega) (by omega)) (jx_inR (by omega) (by omega)) ?_⟩
        have f17 : jx_su (jx_su (jx_su μ1 14 0 (jx_or (μ1 14 0) (jx_shl 1 (σ 2 n)))) 15 (μ 17 0) (σ 2 n)) 16 (μ 17 0) v 17 0 = μ 17 0 := by rw [jx_su_ne (by decide), e17b]
        have f01 : jx_su (jx_su (jx_su (jx_su μ1 14 0 (jx_or (μ1 14 0) (jx_shl 1 (σ 2 n)))) 15 (μ 17 0) (σ 2 n)) 16 (μ 17 0) v) 17 0 (μ 17 0 + 1) 0 1 = μ1 0 1 := by rw [jx_su_ne (by decide), jx_su_ne (by decide), jx_su_ne (by decide), jx_su_ne (by decide)]
        rw [f17, f01, hω]
        refine cg _ (m_least (jx_inR (by omega) (by omega)) (jx_inR (by omega) (by omega)) ?_)
        rw [show min (cfa σ n) (cne σ n) = min (cfa σ n) (cne σ n) from rfl]
        refine dg _ (m_waits (by rw [w13]; exact hw.1) (by rw [w13]; omega) (fun b hb => ?_))
        rw [w13, hb1] at hb
        subst hb
        refine m_waits (by rw [b13]; omega) (by rw [b13]; omega) (fun b' hb' => ?_)
        rw [b13] at hb'
        rw [hb']
        exact hQ
      refine ⟨hc, (hW.R2 hn), fun z => main 2 (by rw [← hval, if_pos z]), fun z => ?_⟩
      have hl : 0 < σ 2 n := by have := hn.2; omega
      have ka := (hW.kid hn hl (th_kids a0 (by omega))).1.1
      have kb := (hW.kid hn hl (th_kids b0 (by omega))).1.1
      exact ⟨⟨kb.1, by have := kb.2; show th σ n (cne σ n) < 40; omega⟩, ⟨ka.1, by have := ka.2; show th σ n (cfa σ n) < 40; omega⟩, main _ (by rw [← hval, if_neg z]; omega)⟩
    refine m_level hA hn.1 (lg _ (m_farthest hW hA1 hn (jx_inR (by decide) (by decide)) hsd hLn ?_))
    rw [ef]
    refine m_farthest hW hA1 hn (jx_inR (by omega) (by omega)) hsd hLn ?_
    rw [eg]
    refine mfa _ (mfb _ ⟨ra, rb, fun z => absurd z (by omega), fun _ => mfa _ (mfb _ ⟨ra, rb, fun z => ⟨jx_inR (by omega) (by omega), jx_inR (by omega) (by omega), fun y => absurd y (by have := o2 z.symm; omega), fun _ => last⟩, fun _ => last⟩)⟩)
