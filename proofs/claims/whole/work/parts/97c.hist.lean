/-! ===== the pure part: the history ===== -/
set_option maxRecDepth 100000 in
theorem rem4_fin : ∀ a : Fin 12, jx_rem ((a.val : Nat) : Int) 4 = ((a.val : Nat) : Int) % 4 := by decide
theorem rem4 {a : Int} (h0 : 0 ≤ a) (h1 : a < 12) : jx_rem a 4 = a % 4 := by
  have := rem4_fin ⟨a.toNat, by omega⟩
  simp only [Int.toNat_of_nonneg h0] at this
  exact this
theorem p_stateAt {Q : Int → Prop} {η : jx_St} {i : Int} (i0 : 0 ≤ i) (i1 : i ≤ 4) (h0 : 0 ≤ η 1 0) (h1 : η 1 0 < 4) (h : Q ((η 1 0 + i) % 4)) : wp_H_stateAt Q η i := by
  have e := rem4 (a := η 1 0 + i) (by omega) (by omega)
  have iR : jx_R i := jx_inR (by omega) (by omega)
  unfold wp_H_stateAt
  rw [e]
  have sR : jx_R ((η 1 0 + i) % 4) := jx_inR (by omega) (by omega)
  exact ⟨iR, fun z => absurd z (by omega), fun _ => ⟨sR, fun z => absurd z (by omega), fun _ => ⟨sR, fun _ => ⟨⟨by omega, by show (η 1 0 + i) % 4 < 4; omega⟩, h⟩, fun z => absurd (show (η 1 0 + i) % 4 < 4 by omega) z⟩⟩⟩
theorem p_record_30 {Q : jx_St → jx_St → jx_St → jx_St → jx_St → Prop} {σ η h0 h1 h2 h3 : jx_St} (o0 : 0 ≤ η 1 0) (o1 : η 1 0 < 4) (k0 : 0 ≤ η 2 0) (k1 : η 2 0 ≤ 3) (h : ∀ t0 t1 t2 t3 τ, Er σ τ → (∀ j, 0 ≤ j → j < 4 → hst t0 t1 t2 t3 j = if j = (η 1 0 + η 2 0) % 4 then τ else hst h0 h1 h2 h3 j) → Q (jx_su η 2 0 (η 2 0 + 1)) t0 t1 t2 t3) : wp_H_record_30 Q σ η h0 h1 h2 h3 := by
  refine p_stateAt k0 (by omega) o0 o1 ?_
  have sb : 0 ≤ (η 1 0 + η 2 0) % 4 ∧ (η 1 0 + η 2 0) % 4 < 4 := by omega
  generalize (η 1 0 + η 2 0) % 4 = s at h sb
  refine ⟨fun e => ?_, fun e => p_copy (fun τ ht => h τ h1 h2 h3 τ ht (fun j j0 j1 => ?_)), fun e => p_copy (fun τ ht => h h0 τ h2 h3 τ ht (fun j j0 j1 => ?_)), fun e => p_copy (fun τ ht => h h0 h1 τ h3 τ ht (fun j j0 j1 => ?_)), fun e => p_copy (fun τ ht => h h0 h1 h2 τ τ ht (fun j j0 j1 => ?_))⟩
  · exact absurd e (by omega)
  · rw [e]; unfold hst
    by_cases y : j = 0
    · rw [if_pos y, if_pos y]
    · rw [if_neg y, if_neg y, if_neg y]
  · rw [e]; unfold hst
    by_cases y : j = 0
    · rw [if_pos y, if_neg (by omega), if_pos y]
    · by_cases y1 : j = 1
      · rw [if_neg y, if_pos y1, if_pos y1]
      · rw [if_neg y, if_neg y1, if_neg y1, if_neg y, if_neg y1]
  · rw [e]; unfold hst
    by_cases y : j = 0
    · rw [if_pos y, if_neg (by omega), if_pos y]
    · by_cases y1 : j = 1
      · rw [if_neg y, if_pos y1, if_neg (by omega), if_neg y, if_pos y1]
      · by_cases y2 : j = 2
        · rw [if_neg y, if_neg y1, if_pos y2, if_pos y2]
        · rw [if_neg y, if_neg y1, if_neg y2, if_neg y2, if_neg y, if_neg y1, if_neg y2]
  · rw [e]; unfold hst
    by_cases y : j = 0
    · rw [if_pos y, if_neg (by omega), if_pos y]
    · by_cases y1 : j = 1
      · rw [if_neg y, if_pos y1, if_neg (by omega), if_neg y, if_pos y1]
      · by_cases y2 : j = 2
        · rw [if_neg y, if_neg y1, if_pos y2, if_neg (by omega), if_neg y, if_neg y1, if_pos y2]
        · rw [if_neg y, if_neg y1, if_neg y2, if_pos (by omega)]
theorem m_record {μ : jx_St} (a0 : 0 ≤ μ 5 0) (a1 : μ 5 0 < 4) (m0 : 0 ≤ μ 4 0) (m1 : μ 4 0 ≤ 4) : ∃ b : jx_St, ((∀ z, z ≠ 2 → z ≠ 4 → z ≠ 5 → b z = μ z) ∧ (∀ j, b 2 j = if 439 * μ 5 0 ≤ j ∧ j < 439 * μ 5 0 + 439 then μ 1 (j - 439 * μ 5 0) else μ 2 j) ∧ b 5 0 = (μ 5 0 + 1) % 4 ∧ b 4 0 = if μ 4 0 < 4 then μ 4 0 + 1 else 4) ∧ ∀ Q : jx_St → Prop, Q b → wp_M_record Q μ := by
  have main := go_loop (γ := jx_St → Prop) (F := fun g (K : jx_St → Prop) B (v : jx_St × Int) => wp_M_record_2 g K B v.1 v.2) (fun v => 0 ≤ v.2 ∧ v.2 ≤ 439 ∧ (∀ z, z ≠ 2 → v.1 z = μ z) ∧ ∀ j, v.1 2 j = if 439 * μ 5 0 ≤ j ∧ j < 439 * μ 5 0 + v.2 then μ 1 (j - 439 * μ 5 0) else μ 2 j) (fun v => (439 - v.2).toNat) (fun b : jx_St => (∀ z, z ≠ 2 → b z = μ z) ∧ ∀ j, b 2 j = if 439 * μ 5 0 ≤ j ∧ j < 439 * μ 5 0 + 439 then μ 1 (j - 439 * μ 5 0) else μ 2 j) (fun v hI => ?_) (a := (μ, 0)) ⟨Int.le_refl _, by dsimp only; omega, fun _ _ => rfl, fun j => by dsimp only; rw [if_neg (by omega)]⟩
  · obtain ⟨b, ⟨h1, h2⟩, hg⟩ := main
    have e5 : b 5 0 = μ 5 0 := by rw [h1 5 (by decide)]
    have e4 : jx_su b 5 0 ((μ 5 0 + 1) % 4) 4 0 = μ 4 0 := by rw [jx_su_ne (by decide), h1 4 (by decide)]
    refine ⟨jx_su (jx_su b 5 0 ((μ 5 0 + 1) % 4)) 4 0 (if μ 4 0 < 4 then μ 4 0 + 1 else 4), ⟨fun z z2 z4 z5 => ?_, fun j => ?_, ?_, jx_su_eq⟩, fun Q hQ => hg Q (fun w => wp_M_record_36 Q w) ?_⟩
    · funext i; rw [jx_su_ne z4, jx_su_ne z5, h1 z z2]
    · rw [jx_su_ne (by decide), jx_su_ne (by decide)]; exact h2 j
    · rw [jx_su_ne (by decide), jx_su_eq]
    · show wp_M_record_36 Q b
      unfold wp_M_record_36
      rw [e5, rem4 (by omega) (by omega), e4]
      refine ⟨jx_inR (by omega) (by omega), fun c => ?_, fun c => ?_⟩
      · rw [if_pos c] at hQ; exact hQ
      · rw [if_neg c] at hQ; exact hQ
  · obtain ⟨ν, i⟩ := v
    obtain ⟨b1, b2, b3, b4⟩ := hI
    dsimp only at b1 b2 b3 b4 ⊢
    have iR : jx_R i := jx_inR (by omega) (by omega)
    have e5 : ν 5 0 = μ 5 0 := by rw [b3 5 (by decide)]
    by_cases c : i < 439
    · right
      refine ⟨(jx_su ν 2 (439 * ν 5 0 + i) (ν 1 i), i + 1), ⟨by dsimp only; omega, by dsimp only; omega, fun z hz => ?_, fun j => ?_⟩, by dsimp only; omega, fun _ K B hB => ⟨iR, fun _ => ⟨⟨b1, c⟩, ⟨by omega, by show 439 * ν 5 0 + i < 1756; omega⟩, hB⟩, fun z => absurd c z⟩⟩
      · dsimp only; rw [← b3 z hz]; funext q; exact jx_su_ne hz
      · dsimp only
        rw [jx_su_same, e5, b3 1 (by decide), b4]
        by_cases e : j = 439 * μ 5 0 + i
        · rw [if_pos e, if_pos (by omega), e]; congr 1; omega
        · rw [if_neg e]
          by_cases y : 439 * μ 5 0 ≤ j ∧ j < 439 * μ 5 0 + i
          · rw [if_pos y, if_pos (by omega)]
          · rw [if_neg y, if_neg (by omega)]
    · left
      have ei : i = 439 := by omega
      exact ⟨ν, ⟨b3, fun j => by rw [b4, ei]⟩, fun _ K B hK => ⟨iR, fun z => absurd z c, fun _ => hK⟩⟩
/-- both sides record -/
theorem lock_record {Q : jx_St → jx_St → jx_St → jx_St → jx_St → Prop} {σ η h0 h1 h2 h3 μ : jx_St} (hRT : RT σ μ) (e1 : ∀ j, 0 ≤ j → j < 439 → μ 1 j = μ 0 j) (hH : Hh η h0 h1 h2 h3 μ)
    (h : ∀ η' t0 t1 t2 t3 μ', Hh η' t0 t1 t2 t3 μ' → (∀ z, z ≠ 2 → z ≠ 4 → z ≠ 5 → μ' z = μ z) → (∀ Qm : jx_St → Prop, Qm μ' → wp_M_record Qm μ) → Q η' t0 t1 t2 t3) : wp_H_record Q σ η h0 h1 h2 h3 := by
  obtain ⟨k0, k1, o0, o1, e4, e5, hr⟩ := hH
  obtain ⟨b, ⟨b1, b2, b5, b4⟩, bg⟩ := m_record (μ := μ) (by rw [e5]; omega) (by rw [e5]; omega) (by rw [e4]; exact k0) (by rw [e4]; exact k1)
  -- the ring, where it is written
  have core : ∀ (o c : Int) (η' : jx_St), 0 ≤ o → o < 4 → 0 ≤ c → c ≤ 3 → η' 1 0 = o → η' 2 0 = c → (o + c) % 4 = μ 5 0 → (if μ 4 0 < 4 then μ 4 0 + 1 else 4) = c + 1 → (∀ i, 0 ≤ i → i < c → RT (hst h0 h1 h2 h3 ((o + i) % 4)) (hrow μ ((o + i) % 4))) → wp_H_record_30 Q σ η' h0 h1 h2 h3 := by
    intro o c η' p0 p1 p2 p3 p4 p5 p6 p7 p8
    refine p_record_30 (by rw [p4]; exact p0) (by rw [p4]; exact p1) (by rw [p5]; exact p2) (by rw [p5]; exact p3) (fun t0 t1 t2 t3 τ ht hj => ?_)
    rw [p4, p5, p6] at hj
    have w1 : jx_su η' 2 0 (η' 2 0 + 1) 1 0 = o := by rw [jx_su_ne (by decide), p4]
    have w2 : jx_su η' 2 0 (η' 2 0 + 1) 2 0 = c + 1 := by rw [jx_su_eq, p5]
    refine h _ t0 t1 t2 t3 b ⟨by rw [w2]; omega, by rw [w2]; omega, by rw [w1]; exact p0, by rw [w1]; exact p1, by rw [w2, b4, p7], by rw [w1, w2, b5, ← p6]; omega, fun i i0 i1 => ?_⟩ b1 bg
    rw [w2] at i1
    rw [w1]
    by_cases e : i = c
    · rw [e, p6, hj _ (by omega) (by omega), if_pos rfl]
      refine (hRT.er ht).in' (fun j j0 j1 => ?_)
      show b 2 (439 * μ 5 0 + j) = μ 0 j
      rw [b2, if_pos (by omega), ← e1 j j0 j1]
      congr 1
      omega
    · have hne : (o + i) % 4 ≠ μ 5 0 := by rw [← p6]; omega
      rw [hj _ (by omega) (by omega), if_neg hne]
      refine (p8 i i0 (by omega)).in' (fun j j0 j1 => ?_)
      show b 2 (439 * ((o + i) % 4) + j) = μ 2 (439 * ((o + i) % 4) + j)
      rw [b2, if_neg (by omega)]
  refine ⟨jx_inR (by omega) (by omega), fun q => ?_, fun q => ?_⟩
  · have r1 := rem4 (a := η 1 0 + 1) (by omega) (by omega)
    refine core ((η 1 0 + 1) % 4) 3 _ (by omega) (by omega) (by decide) (by decide) (by rw [jx_su_ne (by decide), jx_su_eq, r1]) (by rw [jx_su_eq, jx_su_ne (by decide), q]; rfl) (by rw [e5, q]; omega) (by rw [e4, q]; rfl) (fun i i0 i1 => ?_)
    have := hr (i + 1) (by omega) (by omega)
    rw [show (η 1 0 + (i + 1)) % 4 = ((η 1 0 + 1) % 4 + i) % 4 by omega] at this
    exact this
  · exact core (η 1 0) (η 2 0) η o0 o1 k0 (by omega) rfl rfl e5.symm (by rw [e4, if_pos (by omega)]) hr
theorem step_undo : st_undo RRd := by
  intro sB sT sS sC sU sV sW sH sH0 sH1 sH2 sH3 sO sM hR
  obtain ⟨hRT, hC, hT, k0, k1, o0, o1, e4, e5, hr⟩ := id hR
  have kR : jx_R (sH 2 0) := jx_inR (by omega) (by omega)
  refine ⟨kR, fun q => ⟨by rw [e4]; exact kR, fun _ => ⟨rfl, hR⟩, fun z => absurd (by rw [e4]; exact q) z⟩, fun q => ?_⟩
  -- the reference
  have ra : jx_rem (sM 5 0 + 4 - 1) 4 = (sH 1 0 + (sH 2 0 - 1)) % 4 := by rw [rem4 (by omega) (by omega), e5]; omega
  obtain ⟨μ1, hμ1⟩ : ∃ u : jx_St, u = jx_su (jx_su sM 5 0 (jx_rem ((sM 5 0 + 4) - 1) 4)) 4 0 (((jx_su sM 5 0 (jx_rem ((sM 5 0 + 4) - 1) 4)) 4 0) - 1) := ⟨_, rfl⟩
  generalize hs : (sH 1 0 + (sH 2 0 - 1)) % 4 = s at ra
  have f5 : μ1 5 0 = s := by rw [hμ1, jx_su_ne (by decide), jx_su_eq, ra]
  have f4 : μ1 4 0 = sH 2 0 - 1 := by rw [hμ1, jx_su_eq, jx_su_ne (by decide), e4]
  have fz : ∀ z, z ≠ 4 → z ≠ 5 → μ1 z = sM z := fun z z4 z5 => by rw [hμ1]; funext i; rw [jx_su_ne z4, jx_su_ne z5]
  have main := go_loop (γ := Int → jx_St → Prop) (F := fun g (K : jx_St → Prop) B (v : jx_St × Int) => wp_M_undo_36 g K B v.1 v.2) (fun v => 0 ≤ v.2 ∧ v.2 ≤ 439 ∧ (∀ z, z ≠ 0 → v.1 z = μ1 z) ∧ ∀ j, 0 ≤ j → j < v.2 → v.1 0 j = sM 2 (439 * s + j)) (fun v => (439 - v.2).toNat) (fun b : jx_St => (∀ z, z ≠ 0 → b z = μ1 z) ∧ ∀ j, 0 ≤ j → j < 439 → b 0 j = sM 2 (439 * s + j)) (fun v hI => ?_) (a := (μ1, 0)) ⟨Int.le_refl _, by dsimp only; omega, fun _ _ => rfl, fun j j0 j1 => by dsimp only at j1; omega⟩
  · obtain ⟨b, ⟨b1, b2⟩, bg⟩ := main
    have goM : ∀ Q : Int → jx_St → Prop, Q (sH 2 0 - 1) b → wp_M_undo Q sM := fun Q hQ => by
      refine ⟨by rw [e4]; exact kR, fun z => absurd (by rw [← e4]; exact z) q, fun _ => ?_⟩
      rw [← hμ1]
      refine bg Q (fun w => wp_M_undo_70 Q w) ?_
      show Q (b 4 0) b
      rw [b1 4 (by decide), f4]; exact hQ
    -- the class
    have cls : ∀ τ, Er (hst sH0 sH1 sH2 sH3 s) τ → wp_M_undo (fun r2 tM => jx_su sH 2 0 (sH 2 0 - 1) 2 0 = r2 ∧ RRd sB τ sS sC sU sV sW (jx_su sH 2 0 (sH 2 0 - 1)) sH0 sH1 sH2 sH3 sO tM) sM := fun τ ht => by
      have hRTs : RT (hst sH0 sH1 sH2 sH3 s) (hrow sM s) := by
        have := hr (sH 2 0 - 1) (by omega) (by omega)
        rw [hs] at this
        exact this
      refine goM _ ⟨jx_su_eq, ?_, ?_, ?_, ?_⟩
      · exact (hRTs.er ht).in' (fun j j0 j1 => b2 j j0 j1)
      · unfold Ct at hC ⊢
        rw [b1 20 (by decide), b1 18 (by decide), b1 19 (by decide), fz 20 (by decide) (by decide), fz 18 (by decide) (by decide), fz 19 (by decide) (by decide)]
        exact hC
      · unfold Tx at hT ⊢
        rw [b1 6 (by decide), b1 3 (by decide), fz 6 (by decide) (by decide), fz 3 (by decide) (by decide)]
        exact hT
      · have w1 : jx_su sH 2 0 (sH 2 0 - 1) 1 0 = sH 1 0 := jx_su_ne (by decide)
        have w2 : jx_su sH 2 0 (sH 2 0 - 1) 2 0 = sH 2 0 - 1 := jx_su_eq
        refine ⟨by rw [w2]; omega, by rw [w2]; omega, by rw [w1]; exact o0, by rw [w1]; exact o1, by rw [w2, b1 4 (by decide), f4], by rw [w1, w2, b1 5 (by decide), f5, ← hs], fun i i0 i1 => ?_⟩
        rw [w2] at i1
        rw [w1]
        unfold hrow
        rw [b1 2 (by decide), fz 2 (by decide) (by decide)]
        exact hr i i0 (by omega)
    refine p_stateAt (by omega) (by omega) o0 o1 ?_
    rw [hs]
    refine ⟨fun e => absurd e (by omega), fun e => p_copy (fun τ ht => cls τ (by rw [e]; exact ht)), fun e => p_copy (fun τ ht => cls τ (by rw [e]; exact ht)), fun e => p_copy (fun τ ht => cls τ (by rw [e]; exact ht)), fun e => p_copy (fun τ ht => cls τ (by rw [e]; exact ht))⟩
  · obtain ⟨ν, i⟩ := v
    obtain ⟨a1, a2, a3, a4⟩ := hI
    dsimp only at a1 a2 a3 a4 ⊢
    have iR : jx_R i := jx_inR (by omega) (by omega)
    have n5 : ν 5 0 = s := by rw [a3 5 (by decide), f5]
    by_cases c : i < 439
    · right
      refine ⟨(jx_su ν 0 i (ν 2 (439 * ν 5 0 + i)), i + 1), ⟨by dsimp only; omega, by dsimp only; omega, fun z hz => ?_, fun j j0 j1 => ?_⟩, by dsimp only; omega, fun _ K B hB => ⟨iR, fun _ => ⟨⟨by omega, by show 439 * ν 5 0 + i < 1756; omega⟩, ⟨a1, c⟩, hB⟩, fun z => absurd c z⟩⟩
      · dsimp only; rw [← a3 z hz]; funext w; exact jx_su_ne hz
      · dsimp only at j1 ⊢
        rw [jx_su_same]
        by_cases e : j = i
        · rw [if_pos e, e, n5, a3 2 (by decide), fz 2 (by decide) (by decide)]
        · rw [if_neg e]; exact a4 j j0 (by omega)
    · left
      exact ⟨ν, ⟨a3, fun j j0 j1 => a4 j j0 (by omega)⟩, fun _ K B hK => ⟨iR, fun z => absurd z c, fun _ => hK⟩⟩
