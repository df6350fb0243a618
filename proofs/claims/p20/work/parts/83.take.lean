/-! ===== the pure part: both sides take a box out ===== -/
def fO (Qm : jx_St → Prop) (l1 : Int) (K : jx_St → Prop) : (jx_St × Int → Prop) → jx_St × Int → Prop := fun B v => wp_M_takesBox_176 Qm l1 K B v.1 v.2
theorem oL_le {f : Int → Int} {σ : jx_St} {k : Nat} (hW : Ws σ (oL f k) []) {j : Int} (j0 : 0 ≤ j) (j1 : j < (k : Int)) : jx_R (f j) := by
  by_cases c : f j = -1
  · rw [c]; exact jx_inR (by decide) (by decide)
  · have hm : (f j, j) ∈ oL f k := (mem_oL k).mpr ⟨j0, j1, rfl, c⟩
    rcases (hW.2.2.2.2.2.2.2.1 _ _ hm).1 with ⟨_, a, _⟩ | ⟨_, a, _⟩
    · exact a.R
    · exact a.1.R
theorem lock_orphans {Q : jx_St → jx_St → jx_St → Prop} {K : jx_St × jx_St × jx_St → Prop} {ρ ψ σ μ : jx_St} {f : Int → Int} {b l1 r : Int} (hr : r = σ 2 (σ 7 0)) (hW : Ws σ (oL f 8) []) (hH : Hs σ []) (hAl : Al σ) (hA : Ag σ μ) (hC : Cr ρ μ) (hc : ρ 8 0 = 0) (h9 : ρ 9 = f) (h24 : ∀ j, 0 ≤ j → j ≤ r → μ 24 j = f j) (htop : ∀ j, r ≤ j → j < 8 → f j = -1) (hlen : σ 10 0 + ((oL f 8).length : Int) = μ 0 3)
    (h : ∀ ρ' ψ' τ μ', Ws τ [] [] → Hs τ [] → Al τ → Ag τ μ' → τ 0 = σ 0 → τ 10 0 = μ' 0 3 → Cr ρ' μ' → ρ' 8 0 ≤ 32 → Km μ μ' → (∀ (Qm Km : jx_St → Prop), Km μ' → jx_lp (fO Qm l1 Km) (μ, r)) → K (ρ', ψ', τ)) : jx_lp (fun B v => wp_C_takeOut_56 Q b K B v.1 v.2.1 v.2.2.1 v.2.2.2) (ρ, ψ, σ, 7) := by
  have r3 := hW.1.2.1
  have r0 := hW.1.1.2
  rw [← hr] at r3 r0
  have hlv : ∀ a ∈ oL f 8, a.2 ≤ σ 2 (σ 7 0) := fun a ha => by
    obtain ⟨a1, a2, a3, a4⟩ := (mem_oL _).mp ha
    rw [← hr]
    by_cases c : a.2 ≤ r
    · exact c
    · rw [htop _ (by omega) (by omega)] at a3
      exact absurd a3.symm a4
  refine jx_loop (fun v => ∃ μ1, Ws v.2.2.1 (oL f (v.2.2.2 + 1).toNat) [] ∧ Hs v.2.2.1 [] ∧ Al v.2.2.1 ∧ Ag v.2.2.1 μ1 ∧ Cr v.1 μ1 ∧ v.1 8 0 ≤ 4 * (7 - v.2.2.2) ∧ v.1 9 = f ∧ v.2.2.1 0 = σ 0 ∧ v.2.2.1 10 0 + ((oL f (v.2.2.2 + 1).toNat).length : Int) = μ1 0 3 ∧ (∀ a ∈ oL f (v.2.2.2 + 1).toNat, a.2 ≤ v.2.2.1 2 (v.2.2.1 7 0)) ∧ Km μ μ1 ∧ -1 ≤ v.2.2.2 ∧ v.2.2.2 ≤ 7 ∧ ∀ Qm Km, jx_lp (fO Qm l1 Km) (μ1, min v.2.2.2 r) → jx_lp (fO Qm l1 Km) (μ, r)) (fun v => (v.2.2.2 + 1).toNat) (fun B v hJ hB => ?_) ⟨μ, hW, hH, hAl, hA, hC, by dsimp only; omega, h9, rfl, hlen, hlv, Km.rfl' μ, by dsimp only; omega, by dsimp only; omega, fun Qm Km z => by dsimp only at z; rw [show min 7 r = r by omega] at z; exact z⟩
  obtain ⟨ρ1, ψ1, σ1, l⟩ := v
  obtain ⟨μ1, w1, w2, w3, w4, w5, w6, w7, w8, w9, w10, w11, w12, w13, w14⟩ := hJ
  dsimp only at w1 w2 w3 w4 w5 w6 w7 w8 w9 w10 w11 w12 w13 w14 ⊢
  have lR : jx_R l := jx_inR (by omega) (by omega)
  refine ⟨lR, fun q => ?_, fun q => ?_⟩
  · have el : l = -1 := by omega
    subst el
    rw [show (-1 + 1 : Int).toNat = 0 from rfl] at w1 w9
    refine h ρ1 ψ1 σ1 μ1 w1 w2 w3 w4 w8 ?_ w5 (by omega) w11 (fun Qm Km hK => w14 Qm Km (lp_done (fun B' => ?_)))
    · simp only [oL, List.length_nil] at w9
      omega
    · show wp_M_takesBox_176 Qm l1 Km B' μ1 (min (-1) r)
      rw [show min (-1) r = -1 by omega]
      exact ⟨jx_inR (by decide) (by decide), fun _ => hK, fun z => absurd (by decide) z⟩
  · have ek : (l + 1).toNat = l.toNat + 1 := by omega
    have ec : ((l.toNat : Nat) : Int) = l := by omega
    have fR : jx_R (f l) := oL_le w1 (by omega) (by omega)
    have eat : jx_at 8 (ρ1 9) l = f l := by rw [jx_at_in (by omega) (by show l < 8; omega), w7]
    -- the reference's step
    have goM : ∀ Qm Km (v' : jx_St × Int), l ≤ r → (∀ B' : jx_St × Int → Prop, B' v' → (f l = -1 → B' (μ1, l - 1)) ∧ (f l ≠ -1 → wp_M_insertion (fun s => B' (s, l - 1)) μ1 (f l) l)) → jx_lp (fO Qm l1 Km) v' → jx_lp (fO Qm l1 Km) (μ, r) := fun Qm Km v' hlr hs hlp => by
      refine w14 Qm Km (lp_step (fun B' hB' => ?_) hlp)
      show wp_M_takesBox_176 Qm l1 Km B' μ1 (min l r)
      rw [show min l r = l by omega]
      have e24 : μ1 24 l = f l := by rw [w11.1 24 (by decide)]; exact h24 l (by omega) hlr
      unfold wp_M_takesBox_176
      rw [e24]
      exact ⟨lR, fun z => absurd z q, fun _ => ⟨⟨by omega, by show l < 40; omega⟩, fR, fun z => (hs B' hB').1 z, fun z => ⟨⟨by omega, by show l < 40; omega⟩, (hs B' hB').2 z⟩⟩⟩
    have em : min (l - 1) r = l - 1 ∨ r < l := by omega
    rw [eat]
    refine ⟨lR, fR, fun z => ?_, fun z => ?_⟩
    · have eo : oL f (l + 1).toNat = oL f (l + -1 + 1).toNat := by
        rw [ek, show (l + -1 + 1).toNat = l.toNat by omega]
        simp only [oL]
        rw [ec, if_pos z]
      rw [eo] at w1 w9 w10
      refine hB _ ⟨μ1, w1, w2, w3, w4, w5, by dsimp only; omega, w7, w8, w9, w10, w11, by dsimp only; omega, by dsimp only; omega, fun Qm Km hlp => ?_⟩ (by dsimp only; omega)
      dsimp only at hlp
      by_cases c : l ≤ r
      · rw [show min (l + -1) r = l - 1 by omega] at hlp
        exact goM Qm Km _ c (fun B' hB' => ⟨fun _ => hB', fun y => absurd z y⟩) hlp
      · rw [show min (l + -1) r = min l r by omega] at hlp
        exact w14 Qm Km hlp
    · have hlr : l ≤ r := by
        by_cases c : l ≤ r
        · exact c
        · exact absurd (htop l (by omega) (by omega)) z
      have eo : oL f (l + 1).toNat = (f l, l) :: oL f l.toNat := by
        rw [ek]
        simp only [oL]
        rw [ec, if_neg z]
      rw [eo] at w1 w9 w10
      have en : ∀ q i, q ≠ 10 → jx_su σ1 10 0 (σ1 10 0 + 1) q i = σ1 q i := fun q i hq => jx_su_ne hq
      have hWb : Ws (jx_su σ1 10 0 (σ1 10 0 + 1)) ((f l, l) :: oL f l.toNat) [] := ws_congr w1 (by funext i; exact en _ i (by decide)) (by funext i; exact en _ i (by decide)) (by funext i; exact en _ i (by decide)) (by funext i; exact en _ i (by decide)) (by funext i; exact en _ i (by decide)) (by funext i; exact en _ i (by decide)) (by funext i; exact en _ i (by decide))
      have hHb : Hs (jx_su σ1 10 0 (σ1 10 0 + 1)) [] := hs_congr w2 (by funext i; exact en _ i (by decide)) (by funext i; exact en _ i (by decide)) (by funext i; exact en _ i (by decide)) (by funext i; exact en _ i (by decide)) (by funext i; exact en _ i (by decide)) (fun m hm => (w1.sh.1 m hm).1)
      have lv' : ∀ m, lvn (jx_su σ1 10 0 (σ1 10 0 + 1)) m → lvn σ1 m := fun m hm => by unfold lvn at hm ⊢; rw [en 2 _ (by decide)] at hm; exact hm
      have hAb : Ag (jx_su σ1 10 0 (σ1 10 0 + 1)) μ1 := w4.obs (en 7 0 (by decide)) (fun m => en 2 m (by decide)) (fun m _ => en 3 m (by decide)) (fun m k _ _ _ => en 6 _ (by decide)) (fun c _ => en 0 c (by decide)) (en 8 0 (by decide)) (en 9 0 (by decide))
      refine lock_insert hWb hHb (fun m hm => by rw [en 3 _ (by decide)]; exact w3 m (lv' m hm)) hAb (fun a ha => by rw [en 7 _ (by decide), en 2 _ (by decide)]; exact w10 a ha) w5 (by omega) (fun ρ2 ψ2 σ2 μ2 q1 q2 q3 q4 q5 q6 q7 q8 q9 q10 q11 => ?_)
      have et : (l + -1 + 1).toNat = l.toNat := by omega
      refine hB _ ⟨μ2, by dsimp only; rw [et]; exact q1, q2, q3, q4, q6, by dsimp only; omega, q7.trans w7, by rw [← w8]; dsimp only; rw [q5.1]; funext i; exact en 0 i (by decide), ?_, by dsimp only; rw [et]; exact q9, w11.trans' q10.1, by dsimp only; omega, by dsimp only; omega, fun Qm Km hlp => ?_⟩ (by dsimp only; omega)
      · dsimp only
        rw [et, q5.2.1, jx_su_eq, q10.1.2]
        rw [List.length_cons] at w9
        omega
      · dsimp only at hlp
        rw [show min (l + -1) r = l - 1 by omega] at hlp
        exact goM Qm Km _ hlr (fun B' hB' => ⟨fun y => absurd y z, fun _ => q11 (fun s => B' (s, l - 1)) hB'⟩) hlp
