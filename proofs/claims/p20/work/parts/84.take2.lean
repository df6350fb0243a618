/-! ===== the pure part: both sides take a box out, the whole of it ===== -/
def Kt (μ μ' : jx_St) : Prop := ∀ z, z ∉ kmL → z ≠ 24 → μ' z = μ z
theorem g_49 {μ : jx_St} {b n r l : Int} (hl : 0 ≤ l ∧ l ≤ 3) (hr : jx_R l) : ∃ u : jx_St, ((∀ z, z ≠ 24 → u z = μ z) ∧ ∀ j, 0 ≤ j → j ≤ l → u 24 j = -1) ∧ ∀ (Qm K : jx_St → Prop), K u → jx_lp (fun B v => wp_M_takesBox_49 Qm b K n r l B v.1 v.2) (μ, 0) := by
  have := go_loop (γ := jx_St → Prop) (F := fun g K B (v : jx_St × Int) => wp_M_takesBox_49 g b K n r l B v.1 v.2) (fun v => 0 ≤ v.2 ∧ v.2 ≤ l + 1 ∧ (∀ z, z ≠ 24 → v.1 z = μ z) ∧ ∀ j, 0 ≤ j → j < v.2 → v.1 24 j = -1) (fun v => (8 - v.2).toNat) (fun u : jx_St => (∀ z, z ≠ 24 → u z = μ z) ∧ ∀ j, 0 ≤ j → j ≤ l → u 24 j = -1) (fun v hI => ?_) (a := (μ, 0)) ⟨Int.le_refl _, by dsimp only; omega, fun _ _ => rfl, fun j j0 j1 => by dsimp only at j1; omega⟩
  · exact this
  · obtain ⟨ν, i⟩ := v
    obtain ⟨a1, a2, a3, a4⟩ := hI
    dsimp only at a1 a2 a3 a4 ⊢
    have iR : jx_R i := jx_inR (by omega) (by omega)
    by_cases c : i ≤ l
    · right
      refine ⟨(jx_su ν 24 i (-1), i + 1), ⟨by dsimp only; omega, by dsimp only; omega, fun z hz => ?_, fun j j0 j1 => ?_⟩, by dsimp only; omega, fun g K B hB => ⟨iR, hr, fun _ => ⟨⟨a1, by show i < 40; omega⟩, hB⟩, fun z => absurd c z⟩⟩
      · dsimp only; rw [← a3 z hz]; funext j; exact jx_su_ne hz
      · dsimp only at j1 ⊢
        rw [jx_su_same]
        by_cases e : j = i
        · rw [if_pos e]
        · rw [if_neg e]; exact a4 j j0 (by omega)
    · left
      exact ⟨ν, ⟨a3, fun j j0 j1 => a4 j j0 (by omega)⟩, fun g K B hK => ⟨iR, hr, fun z => absurd z c, fun _ => hK⟩⟩
theorem lock_takeOut {Q : jx_St → jx_St → jx_St → Prop} {ρ ψ σ μ : jx_St} {b : Int} (hI : Inv σ) (hA : Ag σ μ) (h3 : σ 10 0 = μ 0 3) (hb : nb b) (h0 : σ 0 b ≠ -1)
    (h : ∀ ρ' ψ' τ μ', Inv τ → Ag τ μ' → τ 0 = jx_su σ 0 b (-1) 0 → τ 10 0 = μ' 0 3 → Cr ρ' μ' → ρ' 8 0 ≤ 32 → Kt μ μ' → (∀ (Qm : jx_St → Prop), Qm μ' → wp_M_takesBox Qm μ b) → Q ρ' ψ' τ) : wp_C_takeOut Q ρ ψ σ b := by
  have b0 := hb.1
  have b1 := hb.2
  obtain ⟨hW, hH, hAl, hR⟩ := hI
  have hl : lvn σ (σ 1 b) ∧ σ 2 (σ 1 b) = 0 ∧ b ∈ kids σ (σ 1 b) := by
    have ha : alv σ b 0 := Or.inl ⟨rfl, hb, h0⟩
    have em : hm σ b 0 = σ 1 b := by unfold hm; rw [if_pos rfl]
    have := (hW.2.2.2.2.2.2.1 b 0 ha).resolve_left List.not_mem_nil
    rw [em] at this
    exact this
  refine p_homeOf hb ?_
  generalize hleaf : σ 1 b = leaf at hl
  obtain ⟨a1, a2, a3⟩ := hl
  obtain ⟨k, k0, k1, hk⟩ := mem_kids.mp a3
  have s5 := hW.sh.1 leaf a1
  have hkf : ∀ j, 0 ≤ j → j < k → th σ leaf j ≠ b := fun j j0 j1 e => by
    have := nodup_th (hW.2.2.2.2.2.1 leaf a1) j0 (by omega) k0 k1 (e.trans hk.symm)
    omega
  refine p_placeIn a1.1 s5.2.1 hb.R (fun j j0 j1 => hW.th_R a1 j0 j1) k0 k1 hk hkf ?_
  refine p_remove a1.1 s5.2.1 ⟨k0, k1⟩ (hW.R2 a1) (Sh_tv hW.sh a1 k0 k1) (p_setBox hb ?_)
  have hW1 := ws_detach hW a1 ⟨k0, k1⟩
  have hH1 := hs_rm hW hH a1 ⟨k0, k1⟩
  rw [hk, a2] at hW1
  have hW2 := ws_unbox hW1
  have hH2 : Hs (jx_su (rmF σ leaf k) 0 b (-1)) [leaf] := hs_box hW1 hH1 (fun m hm hl hmem => by
    have := (hW1.2.2.2.2.1 m b hm hmem).2.2
    rw [hl] at this
    exact this List.mem_cons_self)
  generalize hσ2 : jx_su (rmF σ leaf k) 0 b (-1) = σ2 at hW2 hH2
  have d2 : ∀ m, σ2 2 m = σ 2 m := fun m => by rw [← hσ2, jx_su_ne (by decide), rmF_2]
  have d3 : ∀ m, σ2 3 m = if m = leaf then σ 3 leaf - 1 else σ 3 m := fun m => by rw [← hσ2, jx_su_ne (by decide)]; simp [rmF]
  have d0 : σ2 0 = jx_su σ 0 b (-1) 0 := by
    funext i
    rw [← hσ2, jx_su_same, jx_su_same, rmF_n (by decide) (by decide) (by decide) (by decide)]
  have dn : ∀ q i, q ≠ 0 → q ≠ 1 → q ≠ 3 → q ≠ 5 → q ≠ 6 → σ2 q i = σ q i := fun q i q0 q1 q3 q5 q6 => by rw [← hσ2, jx_su_ne q0, rmF_n q1 q3 q5 q6]
  have la : lvn σ2 leaf := ⟨a1.1, by rw [d2]; exact a1.2⟩
  refine p_refresh2 (t := -1) hW2 hH2 la (fun m hm => Or.inl (List.mem_singleton.mp hm)) (fun σ3 t1 t2 t3 => ?_)
  have t4 : Hs σ3 [] := t3.sub (fun z hz => Or.inr (fun q => by
    have := q.1.1
    rw [List.mem_singleton] at hz
    omega))
  -- the reference
  have hS5 : ∀ z, lvn σ z → 0 ≤ σ 3 z ∧ σ 3 z ≤ 5 := fun z hz => ⟨(hW.sh.1 z hz).1, (hW.sh.1 z hz).2.1⟩
  have hA0 : Ag σ (jx_su μ 17 0 0) := hA.of (by funext i; exact jx_su_ne (by decide))
  obtain ⟨μ1, ⟨c1, c2, c3⟩, cg⟩ := g_drops hA0 hS5 a1 ⟨k0, k1⟩
  have hA2 : Ag σ2 (jx_su μ1 0 (4 + b) 0) := by
    rw [← hσ2]
    exact ag_unbox c2 hb jx_su_eq (fun j hj => by rw [jx_su_same, if_neg hj])
  generalize hμ2 : jx_su μ1 0 (4 + b) 0 = μ2 at hA2
  have e2 : ∀ z, z ≠ 0 → z ≠ 17 → μ2 z = μ z := fun z z0 z17 => by
    funext i
    rw [← hμ2, jx_su_ne z0, c1 z z0, jx_su_ne z17]
  have e17 : μ2 17 0 = 0 := by rw [← hμ2, jx_su_ne (by decide), c1 17 (by decide), jx_su_eq]
  have e03 : μ2 0 3 = μ 0 3 := by rw [← hμ2, jx_su_same, if_neg (by omega), c3, jx_su_ne (by decide)]
  have hrl : lvn σ2 (σ2 7 0) := hW2.1.1
  have r3 := hW2.1.2.1
  have r0 := hrl.2
  obtain ⟨μ3, ⟨f1, f2⟩, fg⟩ := g_49 (μ := μ2) (b := b) (n := leaf) (r := σ2 7 0) (l := σ2 2 (σ2 7 0)) ⟨r0, r3⟩ (jx_inR (by omega) (by omega))
  have hA3 : Ag σ3 μ3 := (hA2.of (f1 0 (by decide))).obs (by rw [t1 7 (by decide)]) (fun z => by rw [t1 2 (by decide)]) (fun z _ => by rw [t1 3 (by decide)]) (fun z k _ _ _ => by unfold th; rw [t1 6 (by decide)]) (fun c _ => by rw [t1 0 (by decide)]) (by rw [t1 8 (by decide)]) (by rw [t1 9 (by decide)])
  have s2 : ∀ m, σ3 2 m = σ 2 m := fun m => by rw [t1 2 (by decide), d2]
  have s3 : ∀ m, σ3 3 m = if m = leaf then σ 3 leaf - 1 else σ 3 m := fun m => by rw [t1 3 (by decide), d3]
  have s7 : σ3 7 0 = σ 7 0 := by rw [t1 7 (by decide), dn 7 0 (by decide) (by decide) (by decide) (by decide) (by decide)]
  have s7' : σ2 7 0 = σ 7 0 := dn 7 0 (by decide) (by decide) (by decide) (by decide) (by decide)
  have startM : ∀ Qm, jx_lp (fD Qm b (σ3 7 0) (σ3 2 (σ3 7 0)) (fun w => wp_M_takesBox_172 Qm b w (σ3 2 (σ3 7 0)))) (μ3, leaf) → wp_M_takesBox Qm μ b := fun Qm hlp => by
    have e7 : σ3 7 0 = σ2 7 0 := by rw [t1 7 (by decide)]
    have e2' : σ3 2 = σ2 2 := t1 2 (by decide)
    rw [e7, e2'] at hlp
    refine m_holder hW hA0 a1 a2 a3 hb.R (m_placeIn hA0 a1 s5.2.1 hb.R (fun j j0 j1 => hW.th_R a1 j0 j1) k0 k1 hk hkf (cg _ ⟨⟨by omega, by show 4 + b < 439; omega⟩, ?_⟩))
    rw [hμ2, hA2.1]
    exact m_level hA2 hrl.1 (fg Qm _ hlp)
  have hD : DsI (jx_su ρ 8 0 0) σ3 μ3 (jx_fill (jx_su ρ 8 0 0) 9 8 (-1)) σ3 μ3 leaf := by
    have eo : oL (jx_fill (jx_su ρ 8 0 0) 9 8 (-1) 9) (σ3 2 leaf).toNat = [] := by rw [s2, a2]; rfl
    refine ⟨by rw [eo]; exact t2, t4, hA3, fun m hm => ?_, ⟨a1.1, by rw [s2]; exact a1.2⟩, fun z => by rw [s2, a2] at z; omega, fun z => ?_, fun z => ?_, fun j j0 j1 => ?_, fun j j0 j1 => ?_, ?_, ⟨rfl, rfl, rfl, rfl⟩, fun q hq => ?_, fun _ _ _ => rfl⟩
    · rw [s3]
      have := hAl m ⟨hm.1, by have := hm.2; rw [s2] at this; exact this⟩
      have := hAl leaf a1
      split <;> omega
    · rw [s7] at z
      rw [s3, if_pos rfl]
      have := ((hW.2.2.2.1 leaf a1).2.2.resolve_left List.not_mem_nil).1 z
      omega
    · rw [s7] at z
      unfold R2 at hR ⊢
      rw [s7, s2, s3, if_neg (fun e => z e.symm)]
      exact hR
    · rw [s2, a2] at j0
      show (if 9 = 9 ∧ 0 ≤ j ∧ j < ((8 : Nat) : Int) then (-1 : Int) else _) = -1
      rw [if_pos ⟨rfl, j0, by omega⟩]
    · rw [f2 j j0 (by rw [s7', d2, ← s7, ← s2]; exact j1)]
      show -1 = (if 9 = 9 ∧ 0 ≤ j ∧ j < ((8 : Nat) : Int) then (-1 : Int) else _)
      have : j < 8 := by rw [s7, s2] at j1; rw [s7', d2] at r3; omega
      rw [if_pos ⟨rfl, j0, by omega⟩]
    · rw [eo, f1 0 (by decide), e03, ← h3, t1 10 (by decide), dn 10 0 (by decide) (by decide) (by decide) (by decide) (by decide)]
      simp
    · funext j
      show (if q = 9 ∧ 0 ≤ j ∧ j < ((8 : Nat) : Int) then (-1 : Int) else _) = _
      rw [if_neg (fun e => hq e.1)]
  refine lock_dissolve (l1 := b) (l4 := σ3 2 (σ3 7 0)) hD (by rw [s2, a2]) (fun ρ4 σ4 μ4 hD4 hgo4 => ?_)
  obtain ⟨w1, w2, w3, w4, w5, w6, w7, w8, o1, o2, o3, ⟨g0, g10, g7, gl⟩, gρ, gμ⟩ := hD4
  have q3 := w1.1.2.1
  have q0 := w1.1.1.2
  have etop : oL (ρ4 9) 8 = oL (ρ4 9) (σ4 2 (σ4 7 0)).toNat := by
    have := oL_top (f := ρ4 9) (k := (σ4 2 (σ4 7 0)).toNat) (8 - (σ4 2 (σ4 7 0)).toNat) (fun j j0 j1 => o1 j (by omega) (by omega))
    rw [show (σ4 2 (σ4 7 0)).toNat + (8 - (σ4 2 (σ4 7 0)).toNat) = 8 by omega] at this
    exact this
  have hW4 : Ws σ4 (oL (ρ4 9) 8) [] := by
    rw [etop]
    refine ws_E w1 (fun m hm => Or.inr (fun _ => ?_))
    rw [List.mem_singleton.mp hm]
    exact ⟨fun z => absurd rfl z, w6⟩
  have c8 : ρ4 8 0 = 0 := by rw [gρ 8 (by decide)]; exact jx_su_eq
  have c17 : μ4 17 0 = 0 := by rw [gμ 17 (by decide) (by decide), f1 17 (by decide), e17]
  refine lock_orphans (f := ρ4 9) (l1 := b) rfl hW4 w2 w4 w3 ⟨by rw [c8, c17], by rw [c8]; exact Int.le_refl _, fun j j0 j1 => by rw [c8] at j1; omega⟩ c8 rfl o2 o1 (by rw [etop]; exact o3) (fun ρ5 ψ5 σ5 μ5 x1 x2 x3 x4 x5 x6 x7 x8 x9 x10 => ?_)
  refine lock_lower (l1 := b) x1 x2 x3 x4 (fun τ μ6 y1 y2 y3 y4 y5 y6 y7 => ?_)
  dsimp only at y3 y4
  refine h ρ5 ψ5 τ μ6 y1 y2 ?_ (by rw [y4, y5, x6]) ?_ x8 (fun z hz z24 => ?_) (fun Qm hQ => startM Qm (hgo4 Qm _ ?_))
  · rw [y3, x5, g0, t1 0 (by decide), d0]
  · unfold Cr at x7 ⊢
    rw [y6 17 (by decide), y6 15 (by decide), y6 16 (by decide)]
    exact x7
  · obtain ⟨z0, z7, z8, z9, z10, z11, z12, z13, z14, z15, z16, z17, _⟩ := km_ne hz
    rw [y6 z z0, x9.1 z hz, gμ z z0 z24, f1 z z24, e2 z z0 z17]
  · show wp_M_takesBox_172 Qm b μ4 (σ3 2 (σ3 7 0))
    rw [← gl]
    exact x10 Qm _ (y7 Qm hQ)
