/-! ===== the pure part: from a leaf upwards, on both sides ===== -/
def DsI (ρ0 σ0 μ0 ρ σ μ : jx_St) (n : Int) : Prop :=
  Ws σ (oL (ρ 9) (σ 2 n).toNat) [n] ∧ Hs σ [] ∧ Ag σ μ ∧ Al σ ∧ lvn σ n ∧ (0 < σ 2 n → 1 ≤ σ 3 n) ∧ (n ≠ σ 7 0 → 1 ≤ σ 3 n) ∧ (n ≠ σ 7 0 → R2 σ) ∧ (∀ j, σ 2 n ≤ j → j < 8 → ρ 9 j = -1) ∧ (∀ j, 0 ≤ j → j ≤ σ 2 (σ 7 0) → μ 24 j = ρ 9 j) ∧ σ 10 0 + ((oL (ρ 9) (σ 2 n).toNat).length : Int) = μ 0 3 ∧ (σ 0 = σ0 0 ∧ σ 10 = σ0 10 ∧ σ 7 = σ0 7 ∧ σ 2 (σ 7 0) = σ0 2 (σ0 7 0)) ∧ (∀ k, k ≠ 9 → ρ k = ρ0 k) ∧ (∀ z, z ≠ 0 → z ≠ 24 → μ z = μ0 z)
def fD (Qm : jx_St → Prop) (l1 r l4 : Int) (K : jx_St → Prop) : (jx_St × Int → Prop) → jx_St × Int → Prop := fun B v => wp_M_takesBox_70 Qm l1 K r l4 B v.1 v.2
theorem lock_dissolve {Q : jx_St → jx_St → Prop} {ρ0 σ0 μ0 ρ σ μ : jx_St} {leaf l1 l4 : Int} (hI : DsI ρ0 σ0 μ0 (jx_fill ρ 9 8 (-1)) σ μ leaf) (hl0 : σ 2 leaf = 0)
    (h : ∀ ρ' τ μ', DsI ρ0 σ0 μ0 ρ' τ μ' (τ 7 0) → (∀ (Qm K : jx_St → Prop), K μ' → jx_lp (fD Qm l1 (σ 7 0) l4 K) (μ, leaf)) → Q ρ' τ) : wp_C_dissolveFrom Q ρ σ leaf := by
  have hr0 : σ 7 = σ0 7 := hI.2.2.2.2.2.2.2.2.2.2.2.1.2.2.1
  refine jx_loop (fun v => ∃ μ1, DsI ρ0 σ0 μ0 v.1 v.2.1 μ1 v.2.2.1 ∧ v.2.2.2 = v.2.1 2 v.2.2.1 ∧ ∀ Qm K, jx_lp (fD Qm l1 (σ 7 0) l4 K) (μ1, v.2.2.1) → jx_lp (fD Qm l1 (σ 7 0) l4 K) (μ, leaf)) (fun v => (8 - v.2.2.2).toNat) (fun B v hJ hB => ?_) ⟨μ, hI, hl0.symm, fun _ _ z => z⟩
  obtain ⟨ρ1, σ1, n, st⟩ := v
  obtain ⟨μ1, hD, hst, hgo⟩ := hJ
  dsimp only at hD hst hgo ⊢
  obtain ⟨hW, hH, hA, hAl, hn, s1, s2, s3, o1, o2, o3, ⟨k0, k10, k7, kl⟩, kρ, kμ⟩ := id hD
  have er : σ1 7 0 = σ 7 0 := by rw [k7, hr0]
  have l3 := (hW.sh.1 n hn).2.2
  have n0 := hn.2
  have nn := hn.1.1
  have stR : jx_R st := jx_inR (by omega) (by omega)
  have rR : jx_R (σ1 7 0) := hW.1.1.1.R
  refine ⟨stR, fun _ => ⟨hn.1.R, fun e => absurd e (by omega), fun _ => ⟨hn.1.R, rR, fun e => ?_, fun hne => ?_⟩⟩, fun q => absurd (show st < 8 by omega) q⟩
  · rw [e] at hD
    refine h ρ1 σ1 μ1 hD (fun Qm K hK => hgo Qm K (lp_done (fun B' => ?_)))
    exact ⟨hn.1.R, by rw [← er]; exact rR, fun _ => hK, fun z => absurd (e.trans er) z⟩
  · -- the node above
    have hab : lvn σ1 (σ1 5 n) ∧ σ1 2 (σ1 5 n) = σ1 2 n + 1 ∧ n ∈ kids σ1 (σ1 5 n) := by
      have ha : alv σ1 n (σ1 2 n + 1) := Or.inr ⟨by omega, hn, by omega, hne⟩
      have em : hm σ1 n (σ1 2 n + 1) = σ1 5 n := by unfold hm; rw [if_neg (by omega)]
      rcases hW.2.2.2.2.2.2.1 n _ ha with z | z
      · have := ((mem_oL _).mp z).2.1
        dsimp only at this
        omega
      · rw [em] at z; exact z
    generalize hab5 : σ1 5 n = ab at hab
    obtain ⟨a1, a2, a3⟩ := hab
    obtain ⟨k, kk0, kk1, hk⟩ := mem_kids.mp a3
    have ane : ab ≠ n := fun e => by rw [e] at a2; omega
    have sn0 := (hW.sh.1 n hn).1
    have sn5 := (hW.sh.1 n hn).2.1
    have sa := hW.sh.1 ab a1
    have ekt : (σ1 2 ab).toNat = (σ1 2 n).toNat + 1 := by omega
    have hkf : ∀ j, 0 ≤ j → j < k → th σ1 ab j ≠ n := fun j j0 j1 e => by
      have := nodup_th (hW.2.2.2.2.2.1 ab a1) j0 (by omega) kk0 kk1 (e.trans hk.symm)
      omega
    have hx1 := s2 hne
    have msz : 2 ≤ σ1 3 ab ∨ σ1 3 n ≠ 1 := by
      by_cases z : ab = σ1 7 0
      · left
        have := s3 hne
        unfold R2 at this
        rw [← z] at this
        exact this (by omega)
      · rcases (hW.2.2.2.1 ab a1).2.2 with y | y
        · exact absurd (List.mem_singleton.mp y) ane
        · exact Or.inl (y.1 z)
    have rst : jx_R (σ1 3 n) := jx_inR (by omega) (by omega)
    have goM : ∀ Qm K (v' : jx_St × Int), (∀ B' : jx_St × Int → Prop, B' v' → (σ1 3 n < 2 → wp_M_takesBox_127 Qm l1 B' K μ1 n (σ 7 0) l4 ab (σ1 2 n) (th σ1 n 0)) ∧ (¬ σ1 3 n < 2 → B' (μ1, ab))) → jx_lp (fD Qm l1 (σ 7 0) l4 K) v' → jx_lp (fD Qm l1 (σ 7 0) l4 K) (μ1, n) := fun Qm K v' hs hlp => by
      refine lp_step (fun B' hB' => ?_) hlp
      refine ⟨hn.1.R, by rw [← er]; exact rR, fun z => absurd (z.trans er.symm) hne, fun _ => m_level hA hn.1 (m_holder hW hA a1 a2 a3 hn.1.R (m_manyOf hA hn ⟨rst, fun z => m_manyOf hA hn ⟨rst, fun y => m_thing hA hn (by omega) (Int.le_refl _) (by omega) ((hs B' hB').1 z), fun y => absurd (by dsimp only at y z ⊢; omega) y⟩, fun z => (hs B' hB').2 z⟩))⟩
    refine p_aboveOf hn.1 ?_
    rw [hab5]
    refine p_sizeOf hn.1 ⟨rst, fun hlt => ?_, fun hge => ?_⟩
    · have e1 : σ1 3 n = 1 := by omega
      obtain ⟨w1, w2, w3, w4, w5, w6⟩ := ws_dissolve hW hH hn e1 a1 a2 kk0 kk1 hk
      have htv : tv (th σ1 n 0) (σ1 2 n) := Sh_tv hW.sh hn (Int.le_refl _) (by omega)
      have xR : jx_R (th σ1 n 0) := hW.th_R hn (Int.le_refl _) (by omega)
      have xne : th σ1 n 0 ≠ -1 := by
        unfold tv at htv
        intro e
        rw [e] at htv
        split at htv
        · have := htv.1; omega
        · have := htv.1; omega
      refine p_levelOf hn.1 (p_thingAt hn.1 ⟨Int.le_refl _, by decide⟩ ⟨hW.R2 hn, p_placeIn a1.1 (by omega) hn.1.R (fun j j0 j1 => hW.th_R a1 j0 j1) kk0 kk1 hk hkf ?_⟩)
      refine p_remove a1.1 (by omega) ⟨kk0, kk1⟩ (hW.R2 a1) (Sh_tv hW.sh a1 kk0 kk1) ?_
      refine p_drop1 hn.1 w6 (by rw [rmF_2]; exact hW.R2 hn) (by rw [w3, rmF_2]; exact htv) ?_
      have la : lvn (dpF (rmF (rmF σ1 ab k) n 0) n) ab := ⟨a1.1, by rw [w4, if_neg ane]; exact a1.2⟩
      refine p_refresh2 (t := -1) w1 w2 la (fun m hm => Or.inl (List.mem_singleton.mp hm)) (fun τ t1 t2 t3 => ?_)
      have t4 : Hs τ [] := t3.sub (fun z hz => Or.inr (fun q => by
        have := q.1.1
        rw [List.mem_singleton] at hz
        omega))
      rw [jx_se_in n0 (show σ1 2 n < 8 by omega)]
      -- the reference
      obtain ⟨μ2, hμ2⟩ : ∃ u : jx_St, u = jx_su (jx_su μ1 24 (σ1 2 n) (th σ1 n 0)) 0 3 (μ1 0 3 + σ1 3 n) := ⟨_, rfl⟩
      have hA2 : Ag σ1 μ2 := by
        rw [hμ2]
        exact ag_03 (hA.of (by funext i; exact jx_su_ne (by decide)))
      have hS5 : ∀ z, lvn σ1 z → 0 ≤ σ1 3 z ∧ σ1 3 z ≤ 5 := fun z hz => ⟨(hW.sh.1 z hz).1, (hW.sh.1 z hz).2.1⟩
      obtain ⟨μ3, ⟨c1, c2, c3⟩, cg⟩ := g_drops hA2 hS5 a1 ⟨kk0, kk1⟩
      have hn1 : lvn (rmF σ1 ab k) n := ⟨hn.1, by rw [rmF_2]; exact hn.2⟩
      have hA3 := ag_drop c2 hn1 w6 (fun m hm => by
        have hm' : lvn σ1 m := ⟨hm.1, by have := hm.2; rw [rmF_2] at this; exact this⟩
        have := (hW.sh.1 m hm').2.1
        have e : rmF σ1 ab k 3 m = if m = ab then σ1 3 ab - 1 else σ1 3 m := by simp [rmF]
        rw [e]
        split <;> omega)
      have dn : ∀ q i, q ≠ 1 → q ≠ 2 → q ≠ 3 → q ≠ 4 → q ≠ 5 → q ≠ 6 → τ q i = σ1 q i := fun q i q1 q2 q3 q4 q5 q6 => by rw [t1 q q4, dpF_n q2 q4 q5, rmF_n q1 q3 q5 q6, rmF_n q1 q3 q5 q6]
      have hA4 : Ag τ (jx_su μ3 0 (159 + n) (-1)) := hA3.obs (by rw [t1 7 (by decide)]) (fun z => by rw [t1 2 (by decide)]) (fun z _ => by rw [t1 3 (by decide)]) (fun z k _ _ _ => by unfold th; rw [t1 6 (by decide)]) (fun c _ => by rw [t1 0 (by decide)]) (by rw [t1 8 (by decide)]) (by rw [t1 9 (by decide)])
      have y2 : ∀ m, τ 2 m = if m = n then -1 else σ1 2 m := fun m => by rw [t1 2 (by decide), w4]
      have y3 : ∀ m, τ 3 m = if m = n then 0 else if m = ab then σ1 3 ab - 1 else σ1 3 m := fun m => by rw [t1 3 (by decide), w5]
      have y7 : τ 7 = σ1 7 := by funext i; exact dn 7 i (by decide) (by decide) (by decide) (by decide) (by decide) (by decide)
      have yab : τ 2 ab = σ1 2 n + 1 := by rw [y2, if_neg ane, a2]
      have eo : oL (jx_su ρ1 9 (σ1 2 n) (th σ1 n 0) 9) (τ 2 ab).toNat = (th σ1 n 0, σ1 2 n) :: oL (ρ1 9) (σ1 2 n).toNat := by
        rw [yab, show (σ1 2 n + 1).toNat = (σ1 2 n).toNat + 1 by omega]
        simp only [oL]
        rw [show (((σ1 2 n).toNat : Nat) : Int) = σ1 2 n by omega, jx_su_eq, if_neg xne, oL_same (g := ρ1 9) _ (fun j j0 j1 => by rw [jx_su_same, if_neg (by omega)])]
      have e03 : μ3 0 3 = μ1 0 3 + 1 := by rw [c3, hμ2, jx_su_eq, e1]
      have hD2 : DsI ρ0 σ0 μ0 (jx_su ρ1 9 (σ1 2 n) (th σ1 n 0)) τ (jx_su μ3 0 (159 + n) (-1)) ab := by
        refine ⟨by rw [eo]; exact t2, t4, hA4, fun m hm => ?_, ⟨a1.1, by rw [yab]; omega⟩, fun _ => ?_, fun _ => ?_, fun hr => ?_, fun j j0 j1 => ?_, fun j j0 j1 => ?_, ?_, ⟨?_, ?_, ?_, ?_⟩, fun q hq => ?_, fun z z0 z24 => ?_⟩
        · have hm2 := hm.2
          rw [y2] at hm2
          rw [y3]
          by_cases z : m = n
          · rw [if_pos z]; decide
          · rw [if_neg z] at hm2 ⊢
            have := hAl m ⟨hm.1, hm2⟩
            have := hAl ab a1
            split <;> omega
        · rw [y3, if_neg ane, if_pos rfl]; omega
        · rw [y3, if_neg ane, if_pos rfl]; omega
        · rw [y7] at hr
          have h2 := s3 hne
          unfold R2 at h2 ⊢
          rw [y7, y2, if_neg (fun e => hne e.symm), y3, if_neg (fun e => hne e.symm), if_neg (fun e => hr e.symm)]
          exact h2
        · rw [yab] at j0
          rw [jx_su_same, if_neg (by omega)]
          exact o1 j (by omega) j1
        · rw [y7, y2, if_neg (fun e => hne e.symm)] at j1
          rw [jx_su_ne (by decide), c1 24 (by decide), hμ2, jx_su_ne (by decide), jx_su_same, jx_su_same]
          split
          · rfl
          · exact o2 j j0 j1
        · rw [eo, jx_su_same, if_neg (by omega), e03, dn 10 0 (by decide) (by decide) (by decide) (by decide) (by decide) (by decide), List.length_cons]
          omega
        · rw [← k0]; funext i; exact dn 0 i (by decide) (by decide) (by decide) (by decide) (by decide) (by decide)
        · rw [← k10]; funext i; exact dn 10 i (by decide) (by decide) (by decide) (by decide) (by decide) (by decide)
        · rw [y7, k7]
        · rw [y7, y2, if_neg (fun e => hne e.symm), kl]
        · funext i; rw [jx_su_ne hq, kρ q hq]
        · funext i; rw [jx_su_ne z0, c1 z z0, hμ2, jx_su_ne z0, jx_su_ne z24, kμ z z0 z24]
      refine hB _ ⟨_, hD2, by dsimp only; rw [yab]; omega, fun Qm K hK => hgo Qm K (goM Qm K _ (fun B' hB' => ⟨fun _ => ?_, fun z => absurd hlt z⟩) hK)⟩ (by dsimp only; omega)
      have e24 : Ag σ1 (jx_su μ1 24 (σ1 2 n) (th σ1 n 0)) := hA.of (by funext i; exact jx_su_ne (by decide))
      refine ⟨⟨n0, by show σ1 2 n < 40; omega⟩, m_manyOf e24 hn ?_⟩
      have e3 : jx_su μ1 24 (σ1 2 n) (th σ1 n 0) 0 3 = μ1 0 3 := jx_su_ne (by decide)
      rw [e3, ← hμ2]
      exact m_placeIn hA2 a1 (by omega) hn.1.R (fun j j0 j1 => hW.th_R a1 j0 j1) kk0 kk1 hk hkf (cg _ ⟨⟨by omega, by have := hn.1.2; show 159 + n < 439; omega⟩, hB'⟩)
    · have hD2 : DsI ρ0 σ0 μ0 ρ1 σ1 μ1 ab := by
        have eo : oL (ρ1 9) (σ1 2 ab).toNat = oL (ρ1 9) (σ1 2 n).toNat := by
          rw [ekt]
          exact oL_top 1 (fun j j0 j1 => o1 j (by omega) (by omega))
        have hWx : Ws σ1 (oL (ρ1 9) (σ1 2 n).toNat) [ab] := ws_E hW (fun m hm => Or.inr (fun _ => by
          rw [List.mem_singleton.mp hm]
          exact ⟨fun _ => by omega, fun _ => by omega⟩))
        exact ⟨by rw [eo]; exact hWx, hH, hA, hAl, a1, fun _ => by omega, fun _ => by omega, fun _ => s3 hne, fun j j0 j1 => o1 j (by omega) j1, o2, by rw [eo]; exact o3, ⟨k0, k10, k7, kl⟩, kρ, kμ⟩
      exact hB _ ⟨μ1, hD2, by dsimp only; omega, fun Qm K hK => hgo Qm K (goM Qm K _ (fun B' hB' => ⟨fun z => absurd z hge, fun _ => hB'⟩) hK)⟩ (by dsimp only; omega)
