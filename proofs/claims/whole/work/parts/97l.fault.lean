/-! ===== the pure part: fault ===== -/
def fT (Q : jx_St → Prop) : (jx_St → Prop) → jx_St → Prop := fun B v => wp_M_tries_15 Q B v
/-- what orders do not write -/
def oKp (μ μ' : jx_St) : Prop := ∀ z, z ∉ kmL → z ≠ 24 → z ≠ 28 → z ≠ 29 → z ≠ 30 → z ≠ 31 → z ≠ 32 → z ≠ 33 → μ' z = μ z
theorem oKp.rfl' (μ : jx_St) : oKp μ μ := fun _ _ _ _ _ _ _ _ _ => rfl
theorem oKp.trans' {a b c : jx_St} (h : oKp a b) (g : oKp b c) : oKp a c := fun z h0 h1 h2 h3 h4 h5 h6 h7 => (g z h0 h1 h2 h3 h4 h5 h6 h7).trans (h z h0 h1 h2 h3 h4 h5 h6 h7)
theorem oKp.rr {μ μ' : jx_St} (h : oKp μ μ') : ∀ z, z ∈ rrL → z ≠ 0 → μ' z = μ z := fun z hz h0 => h z (kt_rr hz h0) (rr_ne hz rfl) (rr_ne hz rfl) (rr_ne hz rfl) (rr_ne hz rfl) (rr_ne hz rfl) (rr_ne hz rfl) (rr_ne hz rfl)
theorem oKp.tx {o μ μ' : jx_St} (h : oKp μ μ') (hT : Tx o μ) : Tx o μ' := tx_of hT (h.rr 3 (by decide) (by decide)) (h.rr 6 (by decide) (by decide))
theorem dF_put {σ τ : jx_St} {n v : Int} (h : τ 0 = jx_su σ 0 n v 0) (hv : v ≠ -1) (hn : dF σ n = 0) : dF τ = fpD (dF σ) n := by
  funext b
  unfold fpD
  by_cases e : b = n
  · rw [if_pos e, if_pos hn, e]
    unfold dF
    rw [h, jx_su_eq, if_neg hv]
  · rw [if_neg e]
    unfold dF
    rw [h, jx_su_same, if_neg e]
theorem dF_take {σ τ : jx_St} {n : Int} (h : τ 0 = jx_su σ 0 n (-1) 0) (hn : dF σ n = 1) : dF τ = fpD (dF σ) n := by
  funext b
  unfold fpD
  by_cases e : b = n
  · rw [if_pos e, if_neg (by omega), e]
    unfold dF
    rw [h, jx_su_eq, if_pos rfl]
  · rw [if_neg e]
    unfold dF
    rw [h, jx_su_same, if_neg e]
theorem dF_0 {σ : jx_St} {n : Int} (h : dF σ n = 0) : σ 0 n = -1 := by
  unfold dF at h
  by_cases c : σ 0 n = -1
  · exact c
  · rw [if_neg c] at h; exact absurd h (by decide)
theorem dF_1 {σ : jx_St} {n : Int} (h : dF σ n = 1) : σ 0 n ≠ -1 := fun c => by
  unfold dF at h
  rw [if_pos c] at h; exact absurd h (by decide)
theorem g_tries {o : jx_St} : ∀ (f : Nat) (σ μ : jx_St) (p k : Int), Inv σ → Ag σ μ → σ 10 0 = μ 0 3 → Tx o μ → μ 28 0 = p → 0 ≤ p → p ≤ o 1 0 → μ 30 0 = 0 → μ 33 0 = k → 60 ≤ (f : Int) + p → ∀ R, exm (chr o) (o 1 0) f p (dF σ) k = R →
    ∃ b : jx_St, (oKp μ b ∧ b 30 0 = R.2.1 ∧ (R.2.1 ≠ 0 → b 32 0 = R.1 ∧ b 31 0 = if R.2.2.1 = -1 then -1000004 else R.2.2.1)) ∧ ∀ Q : jx_St → Prop, Q b → jx_lp (fT Q) μ := by
  intro f
  induction f with
  | zero =>
    intro σ μ p k hI hA h10 hT hp p0 p1 h30 h33 hf R hRR
    have L1 := hT.2.2.1
    have t6 := hT.1
    simp only [exm] at hRR
    subst hRR
    refine ⟨μ, ⟨oKp.rfl' μ, h30, fun z => absurd rfl z⟩, fun Q hQ => lp_done (fun B => ?_)⟩
    show wp_M_tries_15 Q B μ
    exact ⟨by rw [hp]; exact jx_inR (by omega) (by omega), by rw [t6]; exact jx_inR (by omega) (by omega), fun z => absurd z (by rw [hp, t6]; omega), fun _ => hQ⟩
  | succ f ih =>
    intro σ μ p k hI hA h10 hT hp p0 p1 h30 h33 hf R hRR
    have L0 := hT.2.1
    have L1 := hT.2.2.1
    have t6 := hT.1
    have pR : jx_R (μ 28 0) := by rw [hp]; exact jx_inR (by omega) (by omega)
    have oR : jx_R (μ 6 0) := by rw [t6]; exact jx_inR (by omega) (by omega)
    simp only [exm] at hRR
    by_cases c : p < o 1 0
    · rw [if_pos c] at hRR
      have step : ∀ (Q : jx_St → Prop) (b : jx_St), (∀ Q' : jx_St → Prop, Q' b → wp_M_order Q' μ) → jx_lp (fT Q) (jx_su b 33 0 (b 33 0 + 1)) → jx_lp (fT Q) μ := fun Q b ho hlp => by
        refine lp_step (fun B hB => ?_) hlp
        show wp_M_tries_15 Q B μ
        exact ⟨pR, oR, fun _ => ⟨by rw [h30]; exact R_lit 0 (by decide), fun _ => ho _ hB, fun z => absurd h30 z⟩, fun z => absurd (by rw [hp, t6]; exact c) z⟩
      have rb := rdo_bd hT.txo p0 c
      rcases g_order hT hA hp p0 c h30 with ⟨ey, b, ⟨b1, b28, b32, b30, b31⟩, bg⟩ | ⟨ey, hn, hd, hw, hr1, b, ⟨b1, b28⟩, bg1, bg0⟩
      · rw [if_neg ey] at hRR
        subst hRR
        have kp : oKp μ (jx_su b 33 0 (b 33 0 + 1)) := fun z z0 z24 z28 z29 z30 z31 z32 z33 => by rw [← b1 z z28 z29 z30 z31 z32]; funext j; exact jx_su_ne z33
        refine ⟨jx_su b 33 0 (b 33 0 + 1), ⟨kp, by rw [jx_su_ne (by decide)]; exact b30, fun _ => ⟨by rw [jx_su_ne (by decide)]; exact b32, by rw [jx_su_ne (by decide)]; exact b31⟩⟩, fun Q hQ => step Q b bg (lp_done (fun B => ?_))⟩
        show wp_M_tries_15 Q B (jx_su b 33 0 (b 33 0 + 1))
        have e28 : jx_su b 33 0 (b 33 0 + 1) 28 0 = (rdo (chr o) p).2 := by rw [jx_su_ne (by decide), b28]
        have e6 : jx_su b 33 0 (b 33 0 + 1) 6 0 = o 1 0 := by rw [kp 6 (by decide) (by decide) (by decide) (by decide) (by decide) (by decide) (by decide) (by decide), t6]
        have e30 : jx_su b 33 0 (b 33 0 + 1) 30 0 = wy (chr o) (dF σ) p := by rw [jx_su_ne (by decide), b30]
        have wR : jx_R (wy (chr o) (dF σ) p) := by
          unfold wy
          by_cases z1 : (rdo (chr o) p).1 = 0
          · rw [if_pos z1]; exact R_lit 1 (by decide)
          · rw [if_neg z1]
            by_cases z2 : wrN (chr o) p ≠ -1
            · rw [if_pos z2]; exact R_lit 2 (by decide)
            · rw [if_neg z2]
              by_cases z3 : (if dF σ (nu (chr o) (p + 1) 0) ≠ 0 then (1 : Int) else 0) = wP (chr o) p
              · rw [if_pos z3]; exact R_lit 3 (by decide)
              · rw [if_neg z3]; exact R_lit 0 (by decide)
        exact ⟨by rw [e28]; exact jx_inR (by omega) (by omega), by rw [e6]; exact jx_inR (by omega) (by omega), fun _ => ⟨by rw [e30]; exact wR, fun z => absurd (e30.symm.trans z) ey, fun _ => hQ⟩, fun _ => hQ⟩
      · rw [if_pos ey] at hRR
        have hlt := (rb.2.2.2 hr1).1
        have hAb : Ag σ b := hA.of (b1 0 (by decide) (by decide) (by decide))
        have b03 : b 0 3 = μ 0 3 := by rw [b1 0 (by decide) (by decide) (by decide)]
        have kb : oKp μ b := fun z z0 z24 z28 z29 z30 z31 z32 z33 => b1 z z28 z29 z32
        -- the next one
        have nxt : ∀ (τ μ2 : jx_St), Inv τ → Ag τ μ2 → τ 10 0 = μ2 0 3 → dF τ = fpD (dF σ) (nu (chr o) (p + 1) 0) → (∀ z, z ∉ kmL → z ≠ 24 → μ2 z = b z) → (∀ Q' : jx_St → Prop, Q' μ2 → wp_M_order Q' μ) →
            ∃ b : jx_St, (oKp μ b ∧ b 30 0 = R.2.1 ∧ (R.2.1 ≠ 0 → b 32 0 = R.1 ∧ b 31 0 = if R.2.2.1 = -1 then -1000004 else R.2.2.1)) ∧ ∀ Q : jx_St → Prop, Q b → jx_lp (fT Q) μ := fun τ μ2 i1 i2 i3 i4 i5 i6 => by
          have e33 : μ2 33 0 = k := by rw [i5 33 (by decide) (by decide), b1 33 (by decide) (by decide) (by decide), h33]
          have fr : ∀ z, z ≠ 33 → jx_su μ2 33 0 (μ2 33 0 + 1) z = μ2 z := fun z hz => by funext j; exact jx_su_ne hz
          have kk : oKp μ (jx_su μ2 33 0 (μ2 33 0 + 1)) := fun z z0 z24 z28 z29 z30 z31 z32 z33 => by rw [fr z z33, i5 z z0 z24, b1 z z28 z29 z32]
          obtain ⟨b', ⟨q1, q2, q3⟩, qg⟩ := ih τ (jx_su μ2 33 0 (μ2 33 0 + 1)) (rdo (chr o) p).2 (k + 1) i1 (i2.of (fr 0 (by decide))) (by rw [fr 0 (by decide)]; exact i3) (kk.tx hT) (by rw [fr 28 (by decide), i5 28 (by decide) (by decide), b28]) (by omega) rb.2.2.1 (by rw [fr 30 (by decide), i5 30 (by decide) (by decide), b1 30 (by decide) (by decide) (by decide), h30]) (by rw [jx_su_eq, e33]) (by omega) R (by rw [i4]; exact hRR)
          exact ⟨b', ⟨kk.trans' q1, q2, q3⟩, fun Q hQ => step Q μ2 i6 (qg Q hQ)⟩
        rcases wP_01 (chr o) p with x | x
        · rw [if_neg (by omega)] at hd
          exact ex_C_takeOut (lock_takeOut (Q := fun _ _ _ => _) (ρ := fun _ _ => 0) (ψ := fun _ _ => 0) hI hAb (by rw [b03]; exact h10) hn (dF_1 hd) (fun ρ' ψ' τ μ2 y1 y2 y3 y4 y5 y6 y7 y8 => nxt τ μ2 y1 y2 y4 (dF_take y3 hd) y7 (fun Q' hQ' => bg0 x Q' (y8 Q' hQ')))) (fun _ _ _ h => h)
        · rw [if_pos x] at hd
          have hwn := hw x
          obtain ⟨q0, q1, q2, q3⟩ := bs_bo_w hwn
          have hvb := vb_bo hwn
          refine ex_C_bringIn (lock_bringIn (Q := fun _ _ _ => _) (ρ := fun _ _ => 0) (ψ := fun _ _ => 0) hI hAb hn (dF_0 hd) hvb (fun ρ' ψ' τ μ2 y1 y2 y3 y4 y5 y6 y7 y8 => ?_)) (fun _ _ _ h => h)
          rw [q0, q1, q2, q3] at y8
          exact nxt τ μ2 y1 y2 (by rw [y4, y7.2, b03]; exact h10) (dF_put y3 (by have := hvb.1; omega) hd) (fun z hz _ => y7.1 z hz) (fun Q' hQ' => bg1 x Q' (y8 Q' hQ'))
    · rw [if_neg c] at hRR
      subst hRR
      refine ⟨μ, ⟨oKp.rfl' μ, h30, fun z => absurd rfl z⟩, fun Q hQ => lp_done (fun B => ?_)⟩
      show wp_M_tries_15 Q B μ
      exact ⟨pR, oR, fun z => absurd z (by rw [hp, t6]; exact c), fun _ => hQ⟩
theorem tx_o {o o' μ : jx_St} (h : Tx o μ) (e0 : o' 0 = o 0) (e1 : o' 1 = o 1) : Tx o' μ := by unfold Tx at h ⊢; rw [e0, e1]; exact h
theorem step_fault : st_fault RRd := by
  intro sB sT sS sC sU sV sW sH sH0 sH1 sH2 sH3 sO sM a1 hR r1
  obtain ⟨hRT, hC, hT, hHh⟩ := id hR
  obtain ⟨hI, hA, h10⟩ := id hRT
  have z0 := R_lit 0 (by decide)
  have z2 := R_lit 2 (by decide)
  by_cases k1 : 0 ≤ a1 ∧ a1 ≤ 2
  · refine p_upTo_t k1.1 k1.2 z2 (c1 (p_boxSet hI ?_))
    rw [bsF_bD]
    refine p_examine hT.txo (fun o' q0 q1 q2 q3 q4 q5 q6 q7 => ?_)
    obtain ⟨b, ⟨b1, b2⟩, bg⟩ := m_copy (μ := sM)
    obtain ⟨μ1, hμ1⟩ : ∃ u : jx_St, u = jx_su (jx_su (jx_su b 28 0 0) 33 0 0) 30 0 0 := ⟨_, rfl⟩
    have f : ∀ z, z ≠ 28 → z ≠ 30 → z ≠ 33 → μ1 z = b z := fun z z28 z30 z33 => by rw [hμ1]; funext j; rw [jx_su_ne z30, jx_su_ne z33, jx_su_ne z28]
    have e0 : μ1 0 = sM 0 := by rw [f 0 (by decide) (by decide) (by decide), b1 0 (by decide)]
    have hT1 : Tx sO μ1 := tx_of hT (by rw [f 3 (by decide) (by decide) (by decide), b1 3 (by decide)]) (by rw [f 6 (by decide) (by decide) (by decide), b1 6 (by decide)])
    generalize hRR : exm (chr sO) (sO 1 0) 60 0 (dF sT) 0 = R at q2 q3 q4 q5
    obtain ⟨u, ⟨u1, u2, u3⟩, ug⟩ := g_tries (o := sO) 60 sT μ1 0 0 hI (hA.of e0) (by rw [e0]; exact h10) hT1 (by rw [hμ1, jx_su_ne (by decide), jx_su_ne (by decide), jx_su_eq]) (Int.le_refl _) hT.2.1 (by rw [hμ1, jx_su_eq]) (by rw [hμ1, jx_su_ne (by decide), jx_su_eq]) (by decide) R hRR
    obtain ⟨w, ⟨w1, w2⟩, wg⟩ := m_back (μ := u)
    have hRR' : RRd sB sT sS sC sU sV sW sH sH0 sH1 sH2 sH3 o' w := by
      have := rr_back (tB := sB) (tS := sS) (tU := sU) (tV := sV) (tW := sW) (tM := w) hR (fun z hz hz0 => by rw [w1 z hz0, u1.rr z hz hz0, f z (rr_ne hz rfl) (rr_ne hz rfl) (rr_ne hz rfl), b1 z (rr_ne hz rfl)]) (fun j j0 j1 => by rw [w2 j j0 j1, u1 1 (by decide) (by decide) (by decide) (by decide) (by decide) (by decide) (by decide) (by decide), f 1 (by decide) (by decide) (by decide), b2 j j0 j1])
      exact ⟨this.1, this.2.1, tx_o this.2.2.1 q0 q1, this.2.2.2⟩
    have e30 : w 30 0 = R.2.1 := by rw [w1 30 (by decide), u2]
    have goM : ∀ Q : Int → jx_St → Prop, (jx_R (w 30 0) ∧ (((w 30 0) = 0 → Q (-1000004) w) ∧ (¬ (w 30 0) = 0 → jx_R a1 ∧ ((a1 = 0 → Q (w 32 0) w) ∧ (¬ a1 = 0 → jx_R a1 ∧ ((a1 = 1 → Q (w 30 0) w) ∧ (¬ a1 = 1 → Q (w 31 0) w))))))) → wp_M_fault Q sM a1 := fun Q hQ => by
      refine m_in_t k1.1 k1.2 z0 z2 (c1 (bg _ ?_))
      unfold wp_M_tries
      rw [← hμ1]
      exact ug _ (wg _ hQ)
    have rR : jx_R (w 30 0) := by rw [e30, ← q3]; exact q6
    refine ⟨q6, fun z => ?_, fun z => ⟨r1, fun e => ?_, fun e => ⟨r1, fun e1 => ?_, fun e1 => ?_⟩⟩⟩
    · exact goM _ ⟨rR, fun _ => ⟨rfl, hRR'⟩, fun y => absurd (by rw [e30, ← q3]; exact z) y⟩
    · have nz : R.2.1 ≠ 0 := by rw [← q3]; exact z
      refine goM _ ⟨rR, fun y => absurd (e30.symm.trans y) nz, fun _ => ⟨r1, fun _ => ⟨?_, hRR'⟩, fun y => absurd e y⟩⟩
      rw [q2, w1 32 (by decide), (u3 nz).1]
    · have nz : R.2.1 ≠ 0 := by rw [← q3]; exact z
      exact goM _ ⟨rR, fun y => absurd (e30.symm.trans y) nz, fun _ => ⟨r1, fun y => absurd y e, fun _ => ⟨r1, fun _ => ⟨by rw [q3, e30], hRR'⟩, fun y => absurd e1 y⟩⟩⟩
    · have nz : R.2.1 ≠ 0 := by rw [← q3]; exact z
      obtain ⟨x1, x2⟩ := q4 nz
      have e31 : w 31 0 = if R.2.2.1 = -1 then -1000004 else R.2.2.1 := by rw [w1 31 (by decide), (u3 nz).2]
      have last : ∀ v, v = w 31 0 → wp_M_fault (fun r2 tM => v = r2 ∧ RRd sB sT sS sC sU sV sW sH sH0 sH1 sH2 sH3 o' tM) sM a1 := fun v hv => goM _ ⟨rR, fun y => absurd (e30.symm.trans y) nz, fun _ => ⟨r1, fun y => absurd y e, fun _ => ⟨r1, fun y => absurd y e1, fun _ => ⟨hv, hRR'⟩⟩⟩⟩
      refine ⟨x2, fun y => last _ ?_, fun y => last _ ?_⟩
      · rw [e31, if_pos (by rw [← x1]; exact y)]
      · rw [e31, if_neg (by rw [← x1]; exact y), x1]
  · exact p_upTo_f k1 r1 z2 (c0 (m_in_f k1 r1 z0 z2 (c0 ⟨rfl, hR⟩)))
