/-! ===== the pure part: play ===== -/
def brow (μ : jx_St) : jx_St := fun _ j => μ 1 j
def RecC (σ η h0 h1 h2 h3 η' t0 t1 t2 t3 : jx_St) : Prop := ∃ (o c : Int) (τ : jx_St), (0 ≤ o ∧ o < 4 ∧ 0 ≤ c ∧ c ≤ 3) ∧ η' 1 0 = o ∧ η' 2 0 = c + 1 ∧ Er σ τ ∧ (∀ j, 0 ≤ j → j < 4 → hst t0 t1 t2 t3 j = if j = (o + c) % 4 then τ else hst h0 h1 h2 h3 j) ∧ (o + c) % 4 = (η 1 0 + η 2 0) % 4 ∧ c + 1 = (if η 2 0 < 4 then η 2 0 + 1 else 4) ∧ ∀ i, 0 ≤ i → i < c → ∃ i', 0 ≤ i' ∧ i' < η 2 0 ∧ (η 1 0 + i') % 4 = (o + i) % 4
theorem p_recordS {Q : jx_St → jx_St → jx_St → jx_St → jx_St → Prop} {σ η h0 h1 h2 h3 : jx_St} (o0 : 0 ≤ η 1 0) (o1 : η 1 0 < 4) (k0 : 0 ≤ η 2 0) (k1 : η 2 0 ≤ 4) (h : ∀ η' t0 t1 t2 t3, RecC σ η h0 h1 h2 h3 η' t0 t1 t2 t3 → Q η' t0 t1 t2 t3) : wp_H_record Q σ η h0 h1 h2 h3 := by
  have core : ∀ (o c : Int) (η' : jx_St), 0 ≤ o → o < 4 → 0 ≤ c → c ≤ 3 → η' 1 0 = o → η' 2 0 = c → (o + c) % 4 = (η 1 0 + η 2 0) % 4 → c + 1 = (if η 2 0 < 4 then η 2 0 + 1 else 4) → (∀ i, 0 ≤ i → i < c → ∃ i', 0 ≤ i' ∧ i' < η 2 0 ∧ (η 1 0 + i') % 4 = (o + i) % 4) → wp_H_record_30 Q σ η' h0 h1 h2 h3 := by
    intro o c η' p0 p1 p2 p3 p4 p5 p6 p7 p8
    refine p_record_30 (by rw [p4]; exact p0) (by rw [p4]; exact p1) (by rw [p5]; exact p2) (by rw [p5]; exact p3) (fun t0 t1 t2 t3 τ ht hj => ?_)
    rw [p4, p5] at hj
    exact h _ t0 t1 t2 t3 ⟨o, c, τ, ⟨p0, p1, p2, p3⟩, by rw [jx_su_ne (by decide), p4], by rw [jx_su_eq, p5], ht, hj, p6, p7, p8⟩
  refine ⟨jx_inR (by omega) (by omega), fun q => ?_, fun q => ?_⟩
  · have r1 := rem4 (a := η 1 0 + 1) (by omega) (by omega)
    refine core ((η 1 0 + 1) % 4) 3 _ (by omega) (by omega) (by decide) (by decide) (by rw [jx_su_ne (by decide), jx_su_eq, r1]) (by rw [jx_su_eq, jx_su_ne (by decide), q]; rfl) (by rw [q]; omega) (by rw [q]; rfl) (fun i i0 i1 => ⟨i + 1, by omega, by omega, by omega⟩)
  · exact core (η 1 0) (η 2 0) η o0 o1 k0 (by omega) rfl rfl rfl (by rw [if_pos (by omega)]) (fun i i0 i1 => ⟨i, i0, i1, rfl⟩)
theorem hh_rec {σ η h0 h1 h2 h3 η' t0 t1 t2 t3 μ0 μ b : jx_St} (hH : Hh η h0 h1 h2 h3 μ0) (hC : RecC σ η h0 h1 h2 h3 η' t0 t1 t2 t3) (hRT : RT σ (brow μ)) (e2 : μ 2 = μ0 2) (e4 : μ 4 = μ0 4) (e5 : μ 5 = μ0 5) (b2 : ∀ j, b 2 j = if 439 * μ 5 0 ≤ j ∧ j < 439 * μ 5 0 + 439 then μ 1 (j - 439 * μ 5 0) else μ 2 j) (b5 : b 5 0 = (μ 5 0 + 1) % 4) (b4 : b 4 0 = if μ 4 0 < 4 then μ 4 0 + 1 else 4) : Hh η' t0 t1 t2 t3 b := by
  obtain ⟨k0, k1, o0, o1, g4, g5, hr⟩ := hH
  obtain ⟨o, c, τ, ⟨p0, p1, p2, p3⟩, w1, w2, ht, hj, p6, p7, p8⟩ := hC
  have m5 : μ 5 0 = (o + c) % 4 := by rw [e5, g5, p6]
  have m4 : μ 4 0 = η 2 0 := by rw [e4, g4]
  refine ⟨by rw [w2]; omega, by rw [w2]; omega, by rw [w1]; exact p0, by rw [w1]; exact p1, by rw [w2, b4, m4, p7], by rw [w1, w2, b5, m5]; omega, fun i i0 i1 => ?_⟩
  rw [w2] at i1
  rw [w1]
  by_cases e : i = c
  · rw [e, hj _ (by omega) (by omega), if_pos rfl]
    refine (hRT.er ht).in' (fun j j0 j1 => ?_)
    show b 2 (439 * ((o + c) % 4) + j) = μ 1 j
    rw [b2, m5, if_pos (by omega)]
    congr 1
    omega
  · have hne : (o + i) % 4 ≠ (o + c) % 4 := by omega
    rw [hj _ (by omega) (by omega), if_neg hne]
    obtain ⟨i', x0, x1, x2⟩ := p8 i i0 (by omega)
    have hr' := hr i' x0 x1
    rw [x2] at hr'
    refine hr'.in' (fun j j0 j1 => ?_)
    show b 2 (439 * ((o + i) % 4) + j) = μ0 2 (439 * ((o + i) % 4) + j)
    rw [b2, m5, if_neg (by omega), e2]
theorem exm_ge {c : Int → Int} {L : Int} : ∀ (f : Nat) (p : Int) (d : Int → Int) (k : Int), k ≤ (exm c L f p d k).2.2.2 := by
  intro f
  induction f with
  | zero => intro p d k; exact Int.le_refl _
  | succ f ih =>
    intro p d k
    simp only [exm]
    by_cases h : p < L
    · rw [if_pos h]
      by_cases y : wy c d p = 0
      · rw [if_pos y]
        have := ih (rdo c p).2 (fpD d (nu c (p + 1) 0)) (k + 1)
        omega
      · rw [if_neg y]; exact Int.le_refl _
    · rw [if_neg h]; exact Int.le_refl _
theorem step_play : st_play RRd := by
  intro sB sT sS sC sU sV sW sH sH0 sH1 sH2 sH3 sO sM hR
  obtain ⟨hRT, hC, hT, hHh⟩ := id hR
  obtain ⟨hI, hA, h10⟩ := id hRT
  have hTo := hT.txo
  have L0 := hTo.1
  have L1 := hTo.2.1
  refine p_boxSet hI ?_
  rw [bsF_bD]
  refine p_examine hTo (fun o' q0 q1 q2 q3 q4 q5 q6 q7 => ?_)
  obtain ⟨b, ⟨b1, b2⟩, bg⟩ := m_copy (μ := sM)
  obtain ⟨μ1, hμ1⟩ : ∃ u : jx_St, u = jx_su (jx_su (jx_su b 28 0 0) 33 0 0) 30 0 0 := ⟨_, rfl⟩
  have f : ∀ z, z ≠ 28 → z ≠ 30 → z ≠ 33 → μ1 z = b z := fun z z28 z30 z33 => by rw [hμ1]; funext j; rw [jx_su_ne z30, jx_su_ne z33, jx_su_ne z28]
  have e0 : μ1 0 = sM 0 := by rw [f 0 (by decide) (by decide) (by decide), b1 0 (by decide)]
  have e1 : ∀ j, 0 ≤ j → j < 439 → μ1 1 j = sM 0 j := fun j j0 j1 => by rw [f 1 (by decide) (by decide) (by decide), b2 j j0 j1]
  have ek : ∀ z, z ∈ rrL → z ≠ 0 → μ1 z = sM z := fun z hz hz0 => by rw [f z (rr_ne hz rfl) (rr_ne hz rfl) (rr_ne hz rfl), b1 z (rr_ne hz rfl)]
  have hT1 : Tx sO μ1 := tx_of hT (ek 3 (by decide) (by decide)) (ek 6 (by decide) (by decide))
  have m28 : μ1 28 0 = 0 := by rw [hμ1, jx_su_ne (by decide), jx_su_ne (by decide), jx_su_eq]
  have m30 : μ1 30 0 = 0 := by rw [hμ1, jx_su_eq]
  have m33 : μ1 33 0 = 0 := by rw [hμ1, jx_su_ne (by decide), jx_su_eq]
  have startM : ∀ Q : Int → jx_St → Prop, jx_lp (fT (fun s => jx_R (s 30 0) ∧ (((s 30 0) = 0 → wp_M_record (fun s3 => jx_R (s3 33 0) ∧ (((s3 33 0) ≤ 0 → wp_M_play_37 Q s3) ∧ (¬ (s3 33 0) ≤ 0 → wp_M_tells (fun s4 => wp_M_play_37 Q s4) s3 ))) s ) ∧ (¬ (s 30 0) = 0 → wp_M_back (fun s6 => Q (-1000002) s6) s )))) μ1 → wp_M_play Q sM := fun Q h => by
    refine bg _ ?_
    unfold wp_M_tries
    rw [← hμ1]
    exact h
  generalize hRR : exm (chr sO) (sO 1 0) 60 0 (dF sT) 0 = R at q2 q3 q4 q5
  refine ⟨q6, fun z => ?_, fun z => ?_⟩
  · -- all orders are possible
    have hr0 : R.2.1 = 0 := by rw [← q3]; exact z
    obtain ⟨k0, k1, o0, o1, g4, g5, hr⟩ := id hHh
    refine p_recordS o0 o1 k0 k1 (fun η' t0 t1 t2 t3 hRec => ?_)
    have RoR : jx_R R.2.2.2 := by rw [← q5]; exact q7
    refine jx_loop (fun v => ∃ μ', Inv v.2.2.1 ∧ Ag v.2.2.1 μ' ∧ v.2.2.1 10 0 = μ' 0 3 ∧ v.2.2.2.1 0 = sO 0 ∧ v.2.2.2.1 1 = sO 1 ∧ v.2.2.2.1 5 0 = R.2.2.2 ∧ oKp μ1 μ' ∧ μ' 28 0 = v.2.2.2.2.1 ∧ 0 ≤ v.2.2.2.2.1 ∧ v.2.2.2.2.1 ≤ sO 1 0 ∧ μ' 30 0 = 0 ∧ μ' 33 0 = v.2.2.2.2.2 ∧ 0 ≤ v.2.2.2.2.2 ∧ (∃ f : Nat, 60 ≤ (f : Int) + v.2.2.2.2.1 ∧ exm (chr sO) (sO 1 0) f v.2.2.2.2.1 (dF v.2.2.1) v.2.2.2.2.2 = R) ∧ (v.2.2.2.2.2 = 0 → v.1 = sC) ∧ (0 < v.2.2.2.2.2 → Cr v.1 μ' ∧ v.1 8 0 ≤ 32) ∧ ∀ Qm, jx_lp (fT Qm) μ' → jx_lp (fT Qm) μ1) (fun v => (R.2.2.2 - v.2.2.2.2.2).toNat) (fun B v hJ hB => ?_) ⟨μ1, hI, hA.of e0, by dsimp only; rw [e0]; exact h10, q0, q1, q5, oKp.rfl' μ1, m28, Int.le_refl _, L0, m30, m33, Int.le_refl _, ⟨60, by show (60 : Int) ≤ ((60 : Nat) : Int) + 0; decide, hRR⟩, fun _ => rfl, fun y => absurd y (by dsimp only; omega), fun _ y => y⟩
    obtain ⟨ρ1, ψ1, τ, o2, st, k⟩ := v
    obtain ⟨μ', x1, x2, x3, x4, x5, x6, x7, x8, x9, x10, x11, x12, x13, ⟨g, x14, x15⟩, x16, x17, x18⟩ := hJ
    dsimp only at x1 x2 x3 x4 x5 x6 x7 x8 x9 x10 x11 x12 x13 x14 x15 x16 x17 x18 ⊢
    have hge := exm_ge (c := chr sO) (L := sO 1 0) g st (dF τ) k
    rw [x15] at hge
    have kR : jx_R k := jx_inR (by omega) (by have := RoR.2; omega)
    have hT' : Tx sO μ' := x7.tx hT1
    have ef : chr o2 = chr sO := by funext j; unfold chr; rw [x5, x4]
    have h2 : Txo o2 := by unfold Txo at hTo ⊢; rw [x5, x4]; exact hTo
    refine ⟨kR, by rw [x6]; exact RoR, fun y => ?_, fun y => ?_⟩
    · -- the next order
      rw [x6] at y
      have hlt : st < sO 1 0 ∧ wy (chr sO) (dF τ) st = 0 ∧ ∃ g' : Nat, 60 ≤ (g' : Int) + st + 1 ∧ exm (chr sO) (sO 1 0) g' (rdo (chr sO) st).2 (fpD (dF τ) (nu (chr sO) (st + 1) 0)) (k + 1) = R := by
        cases g with
        | zero => rw [← x15] at y; exact absurd (show k < k from y) (by omega)
        | succ g =>
          simp only [exm] at x15
          by_cases c : st < sO 1 0
          · rw [if_pos c] at x15
            by_cases w : wy (chr sO) (dF τ) st = 0
            · rw [if_pos w] at x15
              exact ⟨c, w, g, by omega, x15⟩
            · rw [if_neg w] at x15
              rw [← x15] at y
              exact absurd (show k < k from y) (by omega)
          · rw [if_neg c] at x15
            rw [← x15] at y
            exact absurd (show k < k from y) (by omega)
      obtain ⟨hst, hwy, g', y14, y15⟩ := hlt
      rcases g_order hT' x2 x8 x9 hst x11 with ⟨ey, _⟩ | ⟨ey, hn, hd, hw, hr1, b', ⟨c1', c28⟩, cg1, cg0⟩
      · exact absurd hwy ey
      have rb := rdo_bd hTo x9 hst
      have hlt := (rb.2.2.2 hr1).1
      have hAb : Ag τ b' := x2.of (c1' 0 (by decide) (by decide) (by decide))
      have b03 : b' 0 3 = μ' 0 3 := by rw [c1' 0 (by decide) (by decide) (by decide)]
      refine p_read h2 x9 (by rw [x5]; omega) (fun o3 s1 s2 s3 s4 => ?_)
      rw [ef] at s2 s3 s4
      have s4' := s4 hr1
      have w1 : 1 ≤ wW (chr sO) st := by unfold wW; split <;> decide
      have pR : jx_R (o3 3 0) := by rw [s2]; rcases wP_01 (chr sO) st with w | w <;> rw [w] <;> exact jx_inR (by decide) (by decide)
      -- both sides go on
      have nxt : ∀ ρ3 ψ3 τ3 μ2, Inv τ3 → Ag τ3 μ2 → τ3 10 0 = μ2 0 3 → dF τ3 = fpD (dF τ) (nu (chr sO) (st + 1) 0) → Cr ρ3 μ2 → ρ3 8 0 ≤ 32 → (∀ z, z ∉ kmL → z ≠ 24 → μ2 z = b' z) → (∀ Q' : jx_St → Prop, Q' μ2 → wp_M_order Q' μ') → B (ρ3, ψ3, τ3, o3, o3 4 0, k + 1) := fun ρ3 ψ3 τ3 μ2 i1 i2 i3 i4 i5 i6 i7 i8 => by
        have e33 : μ2 33 0 = k := by rw [i7 33 (by decide) (by decide), c1' 33 (by decide) (by decide) (by decide), x12]
        have fr : ∀ z, z ≠ 33 → jx_su μ2 33 0 (μ2 33 0 + 1) z = μ2 z := fun z hz => by funext j; exact jx_su_ne hz
        have kk : oKp μ' (jx_su μ2 33 0 (μ2 33 0 + 1)) := fun z z0 z24 z28 z29 z30 z31 z32 z33 => by rw [fr z z33, i7 z z0 z24, c1' z z28 z29 z32]
        refine hB _ ⟨jx_su μ2 33 0 (μ2 33 0 + 1), i1, i2.of (fr 0 (by decide)), by dsimp only; rw [fr 0 (by decide)]; exact i3, by dsimp only; rw [s1 0 (by decide) (by decide) (by decide), x4], by dsimp only; rw [s1 1 (by decide) (by decide) (by decide), x5], by dsimp only; rw [s1 5 (by decide) (by decide) (by decide), x6], x7.trans' kk, by dsimp only; rw [fr 28 (by decide), i7 28 (by decide) (by decide), c28, s3], by dsimp only; rw [s3]; omega, by dsimp only; rw [s3]; exact rb.2.2.1, by rw [fr 30 (by decide), i7 30 (by decide) (by decide), c1' 30 (by decide) (by decide) (by decide), x11], by dsimp only; rw [jx_su_eq, e33], by dsimp only; omega, ⟨g', by dsimp only; rw [s3]; omega, by dsimp only; rw [s3, i4]; exact y15⟩, fun w => absurd w (by dsimp only; omega), fun _ => ⟨?_, i6⟩, fun Qm hlp => x18 Qm (lp_step (fun B' hB' => ?_) hlp)⟩ (by dsimp only; omega)
        · unfold Cr at i5 ⊢
          rw [fr 17 (by decide), fr 15 (by decide), fr 16 (by decide)]
          exact i5
        · show wp_M_tries_15 Qm B' μ'
          exact ⟨by rw [x8]; exact jx_inR (by omega) (by omega), by rw [hT'.1]; exact jx_inR (by omega) (by omega), fun _ => ⟨by rw [x11]; exact R_lit 0 (by decide), fun _ => i8 _ hB', fun w => absurd x11 w⟩, fun w => absurd (by rw [x8, hT'.1]; exact hst) w⟩
      have n0 := s4' 0 (Int.le_refl _) (by omega)
      refine ⟨pR, fun w => ?_, fun w => ?_⟩
      · have x : wP (chr sO) st = 0 := by rw [← s2]; exact w
        rw [if_neg (by omega)] at hd
        refine p_number (by decide) ?_
        rw [n0]
        exact lock_takeOut x1 hAb (by rw [b03]; exact x3) hn (dF_1 hd) (fun ρ3 ψ3 τ3 μ2 y1 y2 y3 y4 y5 y6 y7 y8 => nxt ρ3 ψ3 τ3 μ2 y1 y2 y4 (dF_take y3 hd) y5 y6 y7 (fun Q' hQ' => cg0 x Q' (y8 Q' hQ')))
      · have x : wP (chr sO) st = 1 := by rcases wP_01 (chr sO) st with v | v; exact absurd (s2.trans v) w; exact v
        rw [if_pos x] at hd
        have hwn := hw x
        obtain ⟨v0, v1, v2, v3⟩ := bs_bo_w hwn
        have hvb := vb_bo hwn
        have w5 := wW_5 x
        have n1 := s4' 1 (by decide) (by rw [w5]; decide)
        have n2 := s4' 2 (by decide) (by rw [w5]; decide)
        have n3 := s4' 3 (by decide) (by rw [w5]; decide)
        have n4 := s4' 4 (by decide) (by rw [w5]; decide)
        refine p_number (by decide) (p_number (by decide) (p_number (by decide) (p_number (by decide) (p_number (by decide) (p_of ?_)))))
        rw [n0, n1, n2, n3, n4]
        refine lock_bringIn x1 hAb hn (dF_0 hd) hvb (fun ρ3 ψ3 τ3 μ2 y1 y2 y3 y4 y5 y6 y7 y8 => ?_)
        rw [v0, v1, v2, v3] at y8
        exact nxt ρ3 ψ3 τ3 μ2 y1 y2 (by rw [y4, y7.2, b03]; exact x3) (dF_put y3 (by have := hvb.1; omega) hd) y5 (by omega) (fun z hz _ => y7.1 z hz) (fun Q' hQ' => cg1 x Q' (y8 Q' hQ'))
    · -- the end
      rw [x6] at y
      have ekk : k = R.2.2.2 := by omega
      have hend : ¬ st < sO 1 0 := fun c => by
        cases g with
        | zero => omega
        | succ g =>
          simp only [exm] at x15
          rw [if_pos c] at x15
          by_cases w : wy (chr sO) (dF τ) st = 0
          · rw [if_pos w] at x15
            have := exm_ge (c := chr sO) (L := sO 1 0) g (rdo (chr sO) st).2 (fpD (dF τ) (nu (chr sO) (st + 1) 0)) (k + 1)
            rw [x15] at this
            omega
          · rw [if_neg w] at x15
            rw [← x15] at hr0
            exact w hr0
      have kk := x7.rr
      have f5 : μ' 5 = sM 5 := by rw [kk 5 (by decide) (by decide), ek 5 (by decide) (by decide)]
      have f4 : μ' 4 = sM 4 := by rw [kk 4 (by decide) (by decide), ek 4 (by decide) (by decide)]
      have f2 : μ' 2 = sM 2 := by rw [kk 2 (by decide) (by decide), ek 2 (by decide) (by decide)]
      obtain ⟨b3, ⟨d1, d2, d5, d4⟩, dg⟩ := m_record (μ := μ') (by rw [f5, g5]; omega) (by rw [f5, g5]; omega) (by rw [f4, g4]; exact k0) (by rw [f4, g4]; exact k1)
      have hbr : RT sT (brow μ') := hRT.in' (fun j j0 j1 => by
        show μ' 1 j = sM 0 j
        rw [x7 1 (by decide) (by decide) (by decide) (by decide) (by decide) (by decide) (by decide) (by decide), e1 j j0 j1])
      have hHb : Hh η' t0 t1 t2 t3 b3 := hh_rec hHh hRec hbr f2 f4 f5 d2 d5 d4
      have hTb : Tx o2 b3 := tx_o (tx_of hT' (d1 3 (by decide) (by decide) (by decide)) (d1 6 (by decide) (by decide) (by decide))) x4 x5
      have hRTb : RT τ b3 := ⟨x1, x2.of (d1 0 (by decide) (by decide) (by decide)), by rw [d1 0 (by decide) (by decide) (by decide)]; exact x3⟩
      have e33 : b3 33 0 = k := by rw [d1 33 (by decide) (by decide) (by decide), x12]
      refine startM _ (x18 _ (lp_done (fun B' => ?_)))
      show wp_M_tries_15 _ B' μ'
      refine ⟨by rw [x8]; exact jx_inR (by omega) (by omega), by rw [hT'.1]; exact jx_inR (by omega) (by omega), fun w => absurd w (by rw [x8, hT'.1]; exact hend), fun _ => ⟨by rw [x11]; exact R_lit 0 (by decide), fun _ => dg _ ⟨by rw [e33]; exact kR, fun w => ?_, fun w => ?_⟩, fun w => absurd x11 w⟩⟩
      · rw [e33] at w
        have hk0 : k = 0 := by omega
        refine ⟨by dsimp only; rw [x6, e33, ekk], hRTb, ?_, hTb, hHb⟩
        dsimp only
        rw [x16 hk0]
        unfold Ct at hC ⊢
        have c20 : b3 20 = sM 20 := by rw [d1 20 (by decide) (by decide) (by decide), kk 20 (by decide) (by decide), ek 20 (by decide) (by decide)]
        have c18 : b3 18 = sM 18 := by rw [d1 18 (by decide) (by decide) (by decide), kk 18 (by decide) (by decide), ek 18 (by decide) (by decide)]
        have c19 : b3 19 = sM 19 := by rw [d1 19 (by decide) (by decide) (by decide), kk 19 (by decide) (by decide), ek 19 (by decide) (by decide)]
        rw [c20, c18, c19]
        exact hC
      · rw [e33] at w
        obtain ⟨r1, r2⟩ := x17 (by omega)
        have hCb : Cr ρ1 b3 := by
          unfold Cr at r1 ⊢
          rw [d1 17 (by decide) (by decide) (by decide), d1 15 (by decide) (by decide) (by decide), d1 16 (by decide) (by decide) (by decide)]
          exact r1
        obtain ⟨b4, ⟨t1', t2'⟩, tg⟩ := g_tells hCb r2
        refine tg _ ⟨by dsimp only; rw [x6, t1' 33 (by decide) (by decide) (by decide), e33, ekk], hRTb.of (t1' 0 (by decide) (by decide) (by decide)), t2', tx_of hTb (t1' 3 (by decide) (by decide) (by decide)) (t1' 6 (by decide) (by decide) (by decide)), hh_of hHb (t1' 2 (by decide) (by decide) (by decide)) (t1' 4 (by decide) (by decide) (by decide)) (t1' 5 (by decide) (by decide) (by decide))⟩
  · -- an order is not possible
    have nz : R.2.1 ≠ 0 := by rw [← q3]; exact z
    obtain ⟨u, ⟨u1, u2, u3⟩, ug⟩ := g_tries (o := sO) 60 sT μ1 0 0 hI (hA.of e0) (by rw [e0]; exact h10) hT1 m28 (Int.le_refl _) L0 m30 m33 (by decide) R hRR
    obtain ⟨w, ⟨w1, w2⟩, wg⟩ := m_back (μ := u)
    have hRR' : RRd sB sT sS sC sU sV sW sH sH0 sH1 sH2 sH3 o' w := by
      have := rr_back (tB := sB) (tS := sS) (tU := sU) (tV := sV) (tW := sW) (tM := w) hR (fun z hz hz0 => by rw [w1 z hz0, u1.rr z hz hz0, ek z hz hz0]) (fun j j0 j1 => by rw [w2 j j0 j1, u1 1 (by decide) (by decide) (by decide) (by decide) (by decide) (by decide) (by decide) (by decide), e1 j j0 j1])
      exact ⟨this.1, this.2.1, tx_o this.2.2.1 q0 q1, this.2.2.2⟩
    have rR : jx_R (u 30 0) := by rw [u2, ← q3]; exact q6
    exact startM _ (ug _ ⟨rR, fun y => absurd (u2.symm.trans y) nz, fun _ => wg _ ⟨rfl, hRR'⟩⟩)
