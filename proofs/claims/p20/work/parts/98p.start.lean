/-! ===== the property: the start, the end ===== -/
theorem init_inv {τ : jx_St} (hT : PTd τ) : Inv τ ∧ row τ 0 = [0] := by
  obtain ⟨t0, t2, t2', t3, t7, t8, t9, t10⟩ := hT
  have n0 : nd 0 := ⟨Int.le_refl _, by decide⟩
  have lv : ∀ m, lvn τ m → m = 0 := fun m hm => by
    by_cases c : m = 0
    · exact c
    · have := hm.2; rw [t2' m hm.1 c] at this; omega
  have l0 : lvn τ 0 := ⟨n0, by rw [t2]; exact Int.le_refl _⟩
  have hk : kids τ 0 = [] := by unfold kids; rw [(t3 0 n0).1]; rfl
  have noal : ∀ x l, ¬ alv τ x l := fun x l h => by
    rcases h with ⟨_, b, c⟩ | ⟨_, b, _, d⟩
    · exact c (t0 x b)
    · exact d (by rw [t7]; exact lv x b)
  have hI : Inv τ := by
    refine ⟨⟨⟨by rw [t7]; exact l0, by rw [t7, t2]; decide, by rw [t7]; exact (t3 0 n0).2.2⟩, fun n hn => ?_, fun n hn _ => ⟨(t3 n hn).1, (t3 n hn).2.2⟩, fun n hn => ?_, fun n x hn hx => ?_, fun n hn => ?_, fun x l h => absurd h (noal x l), fun x l h => absurd h List.not_mem_nil, List.nodup_nil, fun b hb => Or.inl (t0 b hb)⟩, ⟨fun m hm => Or.inl (t3 m hm).2.1, fun m hm _ => ?_⟩, fun m hm => ?_, fun h => ?_⟩
    · by_cases c : n = 0
      · right; rw [c, t7, t2]; decide
      · left; exact t2' n hn c
    · have := lv n hn
      subst this
      rw [(t3 0 n0).1, t7, t2]
      exact ⟨by decide, by decide, Or.inr ⟨fun h => absurd rfl h, fun h => absurd h (by decide)⟩⟩
    · have := lv n hn
      subst this
      rw [hk] at hx
      exact absurd hx List.not_mem_nil
    · have := lv n hn
      subst this
      rw [hk]
      exact List.nodup_nil
    · have := lv m hm
      subst this
      unfold loc
      rw [(t3 0 n0).1, (t3 0 n0).2.1]
      rfl
    · rw [(t3 m hm.1).1]; decide
    · rw [t7, t2] at h; exact absurd h (by decide)
  refine ⟨hI, ?_⟩
  have := row_top hI.1
  rw [t7, t2] at this
  exact this
theorem init_sum {τ : jx_St} (hT : PTd τ) (g : Int → Int) : smL (gD τ g) nds = g 0 := by
  obtain ⟨hI, hr⟩ := init_inv hT
  rw [all_sum hI g, hT.2.2.2.2.1, hT.2.1]
  show sR (fun l => smL g (row τ l)) 1 = g 0
  simp only [sR]
  rw [show (((0 : Nat)) : Int) = 0 from rfl, hr]
  simp only [smL]
  omega
theorem l_898 {L : Nat} {xs : Nat → Int32} {β ρ ψ σ ω ν υ η h0 h1 h2 h3 ο : jx_St} (hG : GS ρ σ η h0 h1 h2 h3 ο) : wp_L_law_898 (fun r => r = 1) L xs β ρ ψ σ ω ν υ η h0 h1 h2 h3 ο 1 := by
  obtain ⟨hI, hr, hH, hT⟩ := hG
  exact c1 (q_isTree hI (fun ψ1 => c1 (q_refused hI hr.1 hr.2 (by exact ⟨by decide, by decide⟩) (fun β' ψ' ω' ν' υ' => c1 rfl))))
theorem l_107 {L : Nat} {xs : Nat → Int32} {β ρ ψ σ ω ν υ η h0 h1 h2 h3 ο : jx_St} (hG : GS ρ σ η h0 h1 h2 h3 ο) : wp_L_law_107 (fun r => r = 1) L xs β ρ ψ σ ω ν υ η h0 h1 h2 h3 ο 1 := by
  refine jx_loop (fun u => match u with | (β, ρ, ψ, σ, ω, ν, υ, η, h0, h1, h2, h3, ο, is, t) => is = 1 ∧ 0 ≤ t ∧ t ≤ 30 ∧ GS ρ σ η h0 h1 h2 h3 ο) (fun u => (30 - u.2.2.2.2.2.2.2.2.2.2.2.2.2.2).toNat) (fun B u hJ hB => ?_) ⟨rfl, Int.le_refl _, by decide, hG⟩
  obtain ⟨β, ρ, ψ, σ, ω, ν, υ, η, h0, h1, h2, h3, ο, is, t⟩ := u
  obtain ⟨j1, j2, j3, hG⟩ := hJ
  subst j1
  have tR : jx_R t := jx_inR (by omega) (by omega)
  show wp_L_law_110 (fun r => r = 1) L xs _ B β ρ ψ σ ω ν υ η h0 h1 h2 h3 ο 1 t
  refine ⟨tR, fun c => c1 ⟨⟨j2, tR⟩, ?_⟩, fun c => l_898 hG⟩
  have hI := hG.1
  have goB : ∀ β' ρ' ψ' σ' ω' ν' υ' η' h0' h1' h2' h3' ο' : jx_St, GS ρ' σ' η' h0' h1' h2' h3' ο' → B (β', ρ', ψ', σ', ω', ν', υ', η', h0', h1', h2', h3', ο', 1, t + 1) := fun _ _ _ _ _ _ _ _ _ _ _ _ _ g => hB _ ⟨rfl, by omega, by omega, g⟩ (by dsimp only; omega)
  refine q_low (by decide) (by decide) (fun v v0 v1 => q_low (by decide) (by decide) (fun w w0 w1 => q_low (by decide) (by decide) (fun wide p0 p1 => q_low (by decide) (by decide) (fun high q0 q1 => q_low (by decide) (by decide) (fun box b0 b1 => ?_)))))
  have hb : nb box := ⟨b0, b1⟩
  refine q_count hI (R_lit 0 (by decide)) (fun ψ1 => q_boxOf hI hb.R (R_lit 0 (by decide)) (fun ψ2 => ?_))
  by_cases e : σ 0 box = -1
  · exact ce ((aB_0 hb).mpr e) (l_209 hG ⟨j2, c⟩ ⟨v0, v1⟩ ⟨w0, w1⟩ ⟨p0, p1⟩ ⟨q0, q1⟩ hb rfl (Or.inl ⟨rfl, e⟩) goB)
  · refine ⟨?_, fun z => absurd ((aB_0 hb).mp z) e, fun _ => l_209 hG ⟨j2, c⟩ ⟨v0, v1⟩ ⟨w0, w1⟩ ⟨p0, p1⟩ ⟨q0, q1⟩ hb rfl (Or.inr ⟨rfl, e⟩) goB⟩
    rw [aB_side hb e (Int.le_refl 0) (by decide)]
    exact Or.inl ⟨bs_R _ _, R_lit _ (by decide)⟩
theorem pure_law {L : Nat} {xs : Nat → Int32} : ∀ sT sU sH0 sH1 sH2 sH3 : jx_St, PTd sT → PTd sU → PTd sH0 → PTd sH1 → PTd sH2 → PTd sH3 → wp_L_law (fun r => r = 1) L xs (fun _ _ => 0) (fun _ _ => 0) (fun _ _ => 0) sT (fun _ _ => 0) (fun _ _ => 0) sU (fun _ _ => 0) sH0 sH1 sH2 sH3 (fun _ _ => 0) := by
  intro σ υ h0 h1 h2 h3 hT _ _ _ _ _
  obtain ⟨hI, hr⟩ := init_inv hT
  have n0 : nd 0 := ⟨Int.le_refl _, by decide⟩
  obtain ⟨t0, t2, t2', t3, t7, t8, t9, t10⟩ := id hT
  have g0 : (row σ 0)[(0 : Int).toNat]? = some 0 := by rw [hr]; rfl
  have hH : HI (fun _ _ => 0) h0 h1 h2 h3 := ⟨⟨Int.le_refl 0, by show (0 : Int) < 4; decide⟩, ⟨Int.le_refl 0, by show (0 : Int) ≤ 4; decide⟩, fun i i0 i1 => absurd (show i < 0 from i1) (by omega)⟩
  have hO : Txo (fun _ _ => 0) := ⟨Int.le_refl 0, by show (0 : Int) ≤ 60; decide, fun j j0 j1 => absurd (show j < 0 from j1) (by omega)⟩
  have hE : ∀ (o : jx_St) (d : Int → Int), o 1 0 = 0 → exm (chr o) (o 1 0) 60 0 d 0 = (0, 0, 0, 0) := fun o d h => by
    rw [h]
    simp only [exm]
    rw [if_neg (by decide)]
  have hW : Wn 0 0 99 99 := ⟨by decide, by decide, by decide, by decide, by decide, by decide⟩
  refine q_undo_no rfl (ce rfl (q_count hI (R_lit 1 (by decide)) (fun ψ1 => ce (show σ 2 (σ 7 0) + 1 = 1 by rw [t7, t2]; rfl) (q_count hI (R_lit 2 (by decide)) (fun ψ2 => ce (show smL (gD σ (fun _ => 1)) nds = 1 from init_sum hT _) ?_)))))
  refine q_nodeOf hI (R_lit 0 (by decide)) (R_lit 0 (by decide)) (R_lit 4 (by decide)) (fun ψ3 => ?_)
  rw [aN_some (Int.le_refl 0) (Int.le_refl 0) g0, (t3 0 n0).1]
  refine c0 (q_nodeOf hI (R_lit 0 (by decide)) (R_lit 0 (by decide)) (R_lit 5 (by decide)) (fun ψ4 => ?_))
  rw [show aN σ 0 0 5 = orL (th σ 0) (σ 3 0).toNat from aN_set (p := 0) (show (row σ 0)[0]? = some 0 by rw [hr]; rfl), (t3 0 n0).1]
  refine c0 (q_window1 hI hW (fun ψ5 => ?_))
  rw [init_sum hT]
  have hg : gTo σ (bo 0 0 99 99) 0 = 0 := by
    unfold gTo
    rw [(t3 0 n0).2.1, show toF (-1) (bo 0 0 99 99) = 0 from if_pos (Or.inl rfl), if_pos rfl]
  rw [hg]
  refine c0 (q_fault hI hO (by decide) (hE _ _ rfl) (fun o1 p0 p1 => ce rfl ?_))
  have e1 : o1 1 0 = 0 := by rw [p1]
  have hO1 : Txo o1 := by unfold Txo at hO ⊢; rw [p0, p1]; exact hO
  refine q_play_none hI hH hO1 (hE o1 _ e1) (fun η' t0 t1 t2 t3 o2 q0 q1 hR => c0 ?_)
  have hO2 : Txo o2 := by unfold Txo at hO1 ⊢; rw [q0, q1]; exact hO1
  have k1 : η' 2 0 = 1 := hR.2.1.trans (if_pos (by decide))
  refine q_undo hR.1 (by omega) (fun σ' hE' => ?_)
  rw [show η' 2 0 - 1 = 0 by omega]
  have hI' := inv_er (hR.1.top (by omega)) hE'
  have hl := (hR.1.less (by omega)).1
  rw [show η' 2 0 - 1 = 0 by omega] at hl
  refine c0 (q_refused hI' (Int.le_refl 0) (by show (0 : Int) ≤ 32; decide) ⟨by decide, by decide⟩ (fun β' ψ' ω' ν' υ' => c1 (l_107 ⟨hI', ⟨Int.le_refl 0, by show (0 : Int) ≤ 32; decide⟩, hl, hO2⟩)))
