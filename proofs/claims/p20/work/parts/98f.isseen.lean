/-! ===== the property: isSeen ===== -/
theorem vb_ne {v : Int} (h : vb v) : v ≠ -1 := by have := h.1; omega
theorem s_boxes {Q : Int → jx_St → jx_St → Prop} {sB sC σ sH sO ψ : jx_St} {K : jx_St × Int → Prop} {x y wide high : Int} (hI : Inv σ) {c d l8 : Int} (hw : Wn x y c d) (h : ∀ ψ', K (ψ', 1)) :
    jx_lp (fun B43v v43 => wp_L_isSeen_43 Q sC σ sH sO x y wide high K sB c d (tbF σ (bo x y c d) 31) l8 B43v v43.1 v43.2.1 v43.2.2) (ψ, 1, 0) := by
  obtain ⟨w1, w2, w3, w4, w5, w6⟩ := id hw
  have o1 := R_lit 1 (by decide)
  have z0 := R_lit 0 (by decide)
  refine jx_loop (fun v => v.2.1 = 1 ∧ 0 ≤ v.2.2 ∧ v.2.2 ≤ 31) (fun v => (31 - v.2.2).toNat) (fun B v hJ hB => ?_) ⟨rfl, Int.le_refl _, by dsimp only; omega⟩
  obtain ⟨ψ1, is, b⟩ := v
  obtain ⟨j1, j2, j3⟩ := hJ
  dsimp only at j1 j2 j3
  show wp_L_isSeen_43 Q sC σ sH sO x y wide high K sB c d (tbF σ (bo x y c d) 31) l8 B ψ1 is b
  subst j1
  have bR : jx_R b := jx_inR (by omega) (by omega)
  refine ⟨bR, fun q => ⟨o1, fun z => absurd z (by decide), fun _ => q_boxOf hI bR z0 (fun ψ2 => ?_)⟩, fun _ => h ψ1⟩
  have hb : nb b := ⟨j2, q⟩
  have nxt : ∀ ψ', B (ψ', 1, b + 1) := fun ψ' => hB _ ⟨rfl, by dsimp only; omega, by dsimp only; omega⟩ (by dsimp only; omega)
  have e130 : ∀ ψ' t, t = (if toF (σ 0 b) (bo x y c d) ≠ 0 then 1 else 0) → wp_L_isSeen_130 Q sC σ sH sO x y wide high B K sB ψ' c d (tbF σ (bo x y c d) 31) l8 b t := fun ψ' t ht => by
    show jx_eo _ _ ∧ _
    rw [win_bit hb]
    by_cases z : toF (σ 0 b) (bo x y c d) ≠ 0
    · rw [if_pos z] at ht ⊢
      subst ht
      exact ⟨Or.inr rfl, fun _ => ⟨Or.inr rfl, fun _ => nxt ψ', fun y => absurd rfl y⟩, fun y => absurd rfl y⟩
    · rw [if_neg z] at ht ⊢
      subst ht
      exact ⟨Or.inl ⟨z0, o1⟩, fun y => absurd y (by decide), fun _ => ⟨Or.inr rfl, fun _ => nxt ψ', fun y => absurd rfl y⟩⟩
  by_cases z : σ 0 b = -1
  · have ea : aB σ b 0 = -1000004 := by
      unfold aB
      rw [if_neg (by omega), if_pos z]
    rw [ea]
    refine ⟨Or.inr rfl, fun _ => ⟨z0, fun _ => e130 ψ2 0 ?_, fun y => absurd rfl y⟩, fun y => absurd rfl y⟩
    rw [if_neg]
    intro y
    refine y ?_
    unfold toF
    rw [if_pos (Or.inl z)]
  · have hv := hI.vb hb z
    have sd := fun q q0 q1 => aB_side (σ := σ) (k := q) hb z q0 q1
    have ofR := fun w => bs_R (σ 0 b) w
    have ht := toF_bo hv hw
    have g0 := bs_ge (σ 0 b) 0
    rw [sd 0 (by decide) (by decide)]
    have no : ∀ ψ', ¬ (bs (σ 0 b) 0 ≤ c ∧ x ≤ bs (σ 0 b) 2 ∧ bs (σ 0 b) 1 ≤ d ∧ y ≤ bs (σ 0 b) 3) → wp_L_isSeen_129 Q sC σ sH sO x y wide high B K sB ψ' c d (tbF σ (bo x y c d) 31) l8 b := fun ψ' hn => e130 ψ' 0 (by rw [if_neg (fun y => hn (ht.mp y))])
    refine ⟨Or.inl ⟨ofR _, R_lit _ (by decide)⟩, fun y => absurd y (by omega), fun _ => ⟨o1, fun y => absurd y (by decide), fun _ => q_boxOf hI bR z0 (fun ψ3 => ?_)⟩⟩
    rw [sd 0 (by decide) (by decide)]
    refine ⟨ofR _, jx_inR (by omega) (by omega), fun y1 => q_boxOf hI bR (R_lit 2 (by decide)) (fun ψ4 => ?_), fun y1 => no _ (fun k => y1 k.1)⟩
    rw [sd 2 (by decide) (by decide)]
    refine ⟨ofR _, jx_inR (by omega) (by omega), fun y2 => no _ (fun k => by omega), fun y2 => q_boxOf hI bR o1 (fun ψ5 => ?_)⟩
    rw [sd 1 (by decide) (by decide)]
    refine ⟨ofR _, jx_inR (by omega) (by omega), fun y3 => q_boxOf hI bR (R_lit 3 (by decide)) (fun ψ6 => ?_), fun y3 => no _ (fun k => y3 k.2.2.1)⟩
    rw [sd 3 (by decide) (by decide)]
    refine ⟨ofR _, jx_inR (by omega) (by omega), fun y4 => no _ (fun k => by omega), fun y4 => e130 ψ6 1 ?_⟩
    rw [if_pos (ht.mpr ⟨y1, by omega, y3, by omega⟩)]
theorem s_nodes {Q : Int → jx_St → jx_St → Prop} {sB sC σ sH sO ψ : jx_St} {K : jx_St × Int → Prop} {x y wide high l9 l n0 : Int} (hI : Inv σ) {c d : Int} (hw : Wn x y c d) (l0 : 0 ≤ l) (lq : l ≤ σ 2 (σ 7 0)) (h : ∀ ψ', K (ψ', n0 + smL (gTo σ (bo x y c d)) (row σ l))) :
    jx_lp (fun B182v v182 => wp_L_isSeen_182 Q sC σ sH sO x y wide high K sB c d l9 l B182v v182.1 v182.2.1 v182.2.2) (ψ, n0, 0) := by
  obtain ⟨w1, w2, w3, w4, w5, w6⟩ := id hw
  have l3 := hI.1.1.2.1
  have rl := row_len hI.1 l
  have lR : jx_R l := jx_inR (by omega) (by omega)
  refine jx_loop (fun v => ∃ p : Nat, v.2.2 = (p : Int) ∧ p ≤ (row σ l).length ∧ v.2.1 = n0 + smL (gTo σ (bo x y c d)) ((row σ l).take p)) (fun v => ((row σ l).length - v.2.2.toNat)) (fun B v hJ hB => ?_) ⟨0, rfl, Nat.zero_le _, by rw [List.take_zero]; show n0 = n0 + 0; omega⟩
  obtain ⟨ψ1, n, k⟩ := v
  obtain ⟨p, e8, pl', e2⟩ := hJ
  dsimp only at e8 e2
  show wp_L_isSeen_182 Q sC σ sH sO x y wide high K sB c d l9 l B ψ1 n k
  subst e8
  have pR : jx_R (p : Int) := jx_inR (by omega) (by omega)
  refine q_nodeOf hI lR pR (R_lit 4 (by decide)) (fun ψ2 => ?_)
  by_cases hlt : p < (row σ l).length
  · obtain ⟨n', hp, hx, he⟩ := row_at (l := l) hI.1 (p := (p : Int)) (by rw [Int.toNat_natCast]; exact hlt)
    have hp' := hp
    rw [Int.toNat_natCast] at hp'
    have s3 := node_size hI hx
    rw [aN_some l0 (by omega) hp]
    refine ⟨jx_inR (by omega) (by omega), fun q => ?_, fun q => ?_⟩
    · -- the empty root
      have er : n' = σ 7 0 := by
        by_cases z : n' = σ 7 0
        · exact z
        · have := s3.2.2.2 z; omega
      have el : l = σ 2 (σ 7 0) := by rw [← he, er]
      have ep : p = 0 := by rw [el, row_top hI.1, List.length_singleton] at hlt; omega
      have hg : gTo σ (bo x y c d) (σ 7 0) = 0 := by
        unfold gTo
        rw [← er, hull_0 hI.1 hI.2.1 hx q, if_pos]
        unfold toF
        rw [if_pos (Or.inl rfl)]
      have h := h ψ2
      rw [el, row_top hI.1] at h
      have e3 : smL (gTo σ (bo x y c d)) [σ 7 0] = 0 := by
        rw [smL_cons, hg]; rfl
      rw [e3] at h
      rw [e2, ep, List.take_zero]
      exact h
    · have hv := vh_hull hI.1 hI.2.1 hx (show 1 ≤ σ 3 n' by omega)
      have sd := fun w w0 w1 => aN_side (σ := σ) (k := w) l0 (show (0 : Int) ≤ (p : Int) by omega) hp (by omega) w0 w1
      have ofR := fun w => bs_R (σ 4 n') w
      have ht := toF_bo hv hw
      have nxt : ∀ ψ' t, t = gTo σ (bo x y c d) n' → B (ψ', n + t, (p : Int) + 1) := fun ψ' t et => by
        refine hB _ ⟨p + 1, by dsimp only; omega, hlt, ?_⟩ (by dsimp only; omega)
        dsimp only
        rw [(take_at hp').1, smL_app, e2, et]
        show _ = n0 + (_ + (gTo σ (bo x y c d) n' + 0))
        omega
      have no : ∀ ψ', ¬ (bs (σ 4 n') 0 ≤ c ∧ x ≤ bs (σ 4 n') 2 ∧ bs (σ 4 n') 1 ≤ d ∧ y ≤ bs (σ 4 n') 3) → wp_L_isSeen_254 Q sC σ sH sO x y wide high B K sB ψ' c d l9 l (p : Int) n := fun ψ' hn => nxt ψ' 0 (by
        have h0 : toF (σ 4 n') (bo x y c d) = 0 := by
          rcases toF_01 (σ 4 n') (bo x y c d) with z | z
          · exact z
          · exact absurd (ht.mp (by omega)) hn
        unfold gTo
        rw [if_pos h0])
      refine q_nodeOf hI lR pR (R_lit 0 (by decide)) (fun ψ3 => ?_)
      rw [sd 0 (by decide) (by decide)]
      refine ⟨ofR _, jx_inR (by omega) (by omega), fun y1 => q_nodeOf hI lR pR (R_lit 2 (by decide)) (fun ψ4 => ?_), fun y1 => no _ (fun k => y1 k.1)⟩
      rw [sd 2 (by decide) (by decide)]
      refine ⟨ofR _, jx_inR (by omega) (by omega), fun y2 => no _ (fun k => by omega), fun y2 => q_nodeOf hI lR pR (R_lit 1 (by decide)) (fun ψ5 => ?_)⟩
      rw [sd 1 (by decide) (by decide)]
      refine ⟨ofR _, jx_inR (by omega) (by omega), fun y3 => q_nodeOf hI lR pR (R_lit 3 (by decide)) (fun ψ6 => ?_), fun y3 => no _ (fun k => y3 k.2.2.1)⟩
      rw [sd 3 (by decide) (by decide)]
      refine ⟨ofR _, jx_inR (by omega) (by omega), fun y4 => no _ (fun k => by omega), fun y4 => nxt ψ6 1 ?_⟩
      unfold gTo
      rw [if_neg (ht.mpr ⟨y1, by omega, y3, by omega⟩)]
  · have ep : p = (row σ l).length := by omega
    rw [aN_none l0 (by omega) (by decide) (by rw [Int.toNat_natCast]; omega)]
    refine ⟨R_lit _ (by decide), fun _ => ?_, fun z => absurd (show (-1000004 : Int) ≤ 0 by decide) z⟩
    rw [e2, ep, List.take_length]
    exact h ψ2
theorem s_near {Q : Int → jx_St → jx_St → Prop} {sB sC σ sH sO ψ : jx_St} {x y wide high : Int} (hI : Inv σ) (hx : 0 ≤ x ∧ x ≤ 99) (hy : 0 ≤ y ∧ y ≤ 99) (h : ∀ β' ψ', Q 1 β' ψ') : wp_L_isSeen_296 Q sC σ sH sO x y wide high sB ψ 1 := by
  have o1 := R_lit 1 (by decide)
  have z0 := R_lit 0 (by decide)
  have hnb := nBx_bd hI
  have l0 := hI.1.1.1.2
  have l3 := hI.1.1.2.1
  refine jx_loop (fun v => v.2.2.1 = 1 ∧ 0 ≤ v.2.2.2.2 ∧ v.2.2.2.2 ≤ nBx σ ∧ ∃ D : Int → Int, v.2.2.2.1 = bD D ∧ ∀ b, nb b → (D b ≠ 0 ↔ (σ 0 b ≠ -1 ∧ rkF σ x y b < v.2.2.2.2))) (fun v => (nBx σ - v.2.2.2.2).toNat) (fun B v hJ hB => ?_) ⟨rfl, Int.le_refl _, hnb.1, fun _ => 0, bD_0.symm, fun b hb => ⟨fun z => absurd rfl z, fun z => by have := (rkF_lt hx hy hb z.1).1; have := z.2; dsimp only at this; omega⟩⟩
  obtain ⟨β1, ψ1, is, seen, k⟩ := v
  obtain ⟨j1, j2, j3, D, j4, j5⟩ := hJ
  dsimp only at j1 j2 j3 j4 j5
  show wp_L_isSeen_304 Q sC σ sH sO x y wide high B β1 ψ1 is seen k
  subst j1
  have kR : jx_R k := jx_inR (by omega) (by omega)
  refine q_count hI z0 (fun ψ2 => ?_)
  have e0 : aK sC σ sH sO 0 = nBx σ := rfl
  rw [e0]
  refine ⟨kR, jx_inR (by omega) (by omega), fun q => ⟨o1, fun z => absurd z (by decide), fun _ => ?_⟩, fun q => ⟨Or.inr rfl, h _ _⟩⟩
  obtain ⟨b, hb, hn, he⟩ := rk_ex hI hx hy j2 q
  have sd := fun q q0 q1 => aB_side (σ := σ) (k := q) hb hn q0 q1
  have hv := hI.vb hb hn
  obtain ⟨_, _, v1, v2, v3, v4⟩ := hv
  have g := fun w => bs_127 (σ 0 b) w
  have g0 := g 0
  have g1 := g 1
  have g2 := g 2
  have g3 := g 3
  have hdb := diF_bd (σ 0 b) x y hx hy
  have near := fun (Q : Int → jx_St → jx_St → Prop) (sB sS : jx_St) w hw h0 h1 h2 => q_nearest (Q := Q) (sB := sB) (sS := sS) (k := w) hI hx hy j2 kR hw hb hn he h0 h1 h2
  refine near _ _ _ 0 (by decide) (fun _ β2 => ?_) (fun z => absurd z (by decide)) (fun z => absurd z (by decide))
  refine near _ _ _ 1 (by decide) (fun z => absurd z (by decide)) (fun _ β3 => ?_) (fun z => absurd z (by decide))
  refine q_boxOf hI hb.R z0 (fun ψ3 => ?_)
  rw [sd 0 (by decide) (by decide)]
  refine q_boxOf hI hb.R (R_lit 2 (by decide)) (fun ψ4 => ?_)
  rw [sd 2 (by decide) (by decide)]
  refine q_greater (jx_inR (by omega) (by omega)) (jx_inR (by omega) (by omega)) (q_greater z0 (jx_inR (by omega) (by omega)) (q_boxOf hI hb.R o1 (fun ψ5 => ?_)))
  rw [sd 1 (by decide) (by decide)]
  refine q_boxOf hI hb.R (R_lit 3 (by decide)) (fun ψ6 => ?_)
  rw [sd 3 (by decide) (by decide)]
  refine q_greater (jx_inR (by omega) (by omega)) (jx_inR (by omega) (by omega)) (q_greater z0 (jx_inR (by omega) (by omega)) ?_)
  -- this box isn't seen yet
  have bit0 : jx_and (jx_shr seen b) 1 = 0 := by
    rw [j4, bD_test hb, if_neg]
    intro z
    have := ((j5 b hb).mp z).2
    omega
  have nxt : ∀ β' ψ', B (β', ψ', 1, jx_or seen (jx_shl 1 b), k + 1) := fun β' ψ' => by
    refine hB _ ⟨rfl, by dsimp only; omega, by dsimp only; omega, setD D b, by dsimp only; rw [j4, bD_or hb], fun b' hb' => ?_⟩ (by dsimp only; omega)
    unfold setD
    by_cases z : b' = b
    · rw [if_pos z]
      exact ⟨fun _ => ⟨by rw [z]; exact hn, by rw [z]; dsimp only; omega⟩, fun _ => by decide⟩
    · rw [if_neg z, j5 b' hb']
      constructor
      · rintro ⟨a1, a2⟩; exact ⟨a1, by dsimp only; omega⟩
      · rintro ⟨a1, a2⟩
        refine ⟨a1, ?_⟩
        have : rkF σ x y b' ≠ k := fun e => z (rk_one hx hy hb' hb a1 hn (e.trans he.symm))
        dsimp only at a2
        omega
  -- how many nodes
  have hwb := within_bd hI hb hn (x := x) (y := y)
  have hnodes : smL (gD σ (fun _ => 1)) nds ≤ 128 := by
    rw [all_sum hI]
    have h2 := sR_le (f := fun l => smL (fun _ => 1) (row σ l)) (g := fun _ => 32) (σ 2 (σ 7 0) + 1).toNat (fun l _ _ => by
      have := row_len hI.1 l
      rw [smL_1]; omega)
    have h3 : ∀ n : Nat, sR (fun _ => 32) n = 32 * (n : Int) := by
      intro n
      induction n with
      | zero => rfl
      | succ n ih => simp only [sR]; rw [ih]; omega
    rw [h3] at h2
    omega
  have wR : jx_R (smL (gD σ (gDi σ x y (diF (σ 0 b) x y))) nds) := jx_inR (by omega) (by omega)
  have e473 : ∀ β' ψ', wp_L_isSeen_473 Q sC σ sH sO x y wide high B β' ψ' seen k b := fun β' ψ' => by
    refine near _ _ _ 2 (by decide) (fun z => absurd z (by decide)) (fun z => absurd z (by decide)) (fun _ β4 ψ7 => q_count hI o1 (fun ψ8 => ?_))
    have e1 : aK sC σ sH sO 1 = σ 2 (σ 7 0) + 1 := rfl
    rw [e1]
    refine ⟨wR, jx_inR (by omega) (by omega), fun z => absurd z (by omega), fun _ => near _ _ _ 2 (by decide) (fun z => absurd z (by decide)) (fun z => absurd z (by decide)) (fun _ β5 ψ9 => q_count hI (R_lit 2 (by decide)) (fun ψ10 => ?_))⟩
    have e2 : aK sC σ sH sO 2 = smL (gD σ (fun _ => 1)) nds := rfl
    rw [e2]
    exact ⟨wR, jx_inR (by omega) (by omega), fun _ => nxt _ _, fun z => absurd hwb.2 z⟩
  have e415 : ∀ β' ψ' t, jx_R t → (t < diF (σ 0 b) x y ∨ (t = diF (σ 0 b) x y ∧ 1 ≤ k ∧ ∃ b0, nb b0 ∧ σ 0 b0 ≠ -1 ∧ rkF σ x y b0 = k - 1 ∧ b0 < b)) → wp_L_isSeen_415 Q sC σ sH sO x y wide high B β' ψ' seen k b (diF (σ 0 b) x y) (max 0 (max (bs (σ 0 b) 0 - x) (x - bs (σ 0 b) 2))) (max 0 (max (bs (σ 0 b) 1 - y) (y - bs (σ 0 b) 3))) t := fun β' ψ' t tR ht => by
    refine ⟨rr_and _ _, fun _ => ⟨Or.inr rfl, fun _ => ⟨jx_inR (by omega) (by omega), tR, fun z => ⟨Or.inl ⟨jx_inR (by omega) (by omega), tR⟩, fun e => ?_, fun e => ?_⟩, fun _ => e473 β' ψ'⟩, fun z => absurd rfl z⟩, fun z => absurd bit0 z⟩
    · rcases ht with y1 | ⟨y1, y2, b0, h1, h2, h3, h4⟩
      · exfalso; omega
      · refine q_nearest (k := 0) hI hx hy (by omega) (jx_inR (by omega) (by omega)) (by decide) h1 h2 h3 (fun _ β4 => ⟨hb.R, h1.R, fun z => absurd z (by omega), fun _ => e473 _ _⟩) (fun z => absurd z (by decide)) (fun z => absurd z (by decide))
    · exfalso
      rcases ht with y1 | ⟨y1, _⟩
      · omega
      · exact e y1.symm
  refine ⟨kR, fun z => e415 _ _ (-1) (R_lit _ (by decide)) (Or.inl (by omega)), fun z => ?_⟩
  -- the one before
  obtain ⟨b0, hb0, hn0, he0⟩ := rk_ex hI hx hy (n := k - 1) (by omega) (by omega)
  have hd0 := diF_bd (σ 0 b0) x y hx hy
  have hrk := rk_less (σ := σ) (x := x) (y := y) (b := b0) (c := b) (by omega)
  have r1 := ((rk_bd (σ := σ) hb hx hy).2.1 hn).1
  have r0 := ((rk_bd (σ := σ) hb0 hx hy).2.1 hn0).1
  rw [r1, r0] at hrk
  have bb := hb.2
  have bb0 := hb0.2
  have bc := hb.1
  have bc0 := hb0.1
  refine q_nearest (k := 1) hI hx hy (by omega) (jx_inR (by omega) (by omega)) (by decide) hb0 hn0 he0 (fun z => absurd z (by decide)) (fun _ β4 => e415 _ _ _ (jx_inR (by omega) (by omega)) ?_) (fun z => absurd z (by decide))
  by_cases y1 : diF (σ 0 b0) x y < diF (σ 0 b) x y
  · exact Or.inl y1
  · exact Or.inr ⟨by omega, by omega, b0, hb0, hn0, he0, by omega⟩
theorem q_isSeen {Q : Int → jx_St → jx_St → Prop} {sB sC sS σ sH sO : jx_St} {x y wide high : Int} (hI : Inv σ) (hx : 0 ≤ x ∧ x ≤ 99) (hy : 0 ≤ y ∧ y ≤ 99) (h1 : 0 ≤ wide ∧ wide ≤ 1000) (h2 : 0 ≤ high ∧ high ≤ 1000) (h : ∀ β' ψ', Q 1 β' ψ') : wp_L_isSeen Q sB sC sS σ sH sO x y wide high := by
  have o1 := R_lit 1 (by decide)
  have l0 := hI.1.1.1.2
  have l3 := hI.1.1.2.1
  have hw : Wn x y (min 99 (x + wide)) (min 99 (y + high)) := ⟨hx.1, hy.1, by omega, by omega, by omega, by omega⟩
  refine q_lesser (R_lit 99 (by decide)) (jx_inR (by omega) (by omega)) (q_lesser (R_lit 99 (by decide)) (jx_inR (by omega) (by omega)) (q_window0 hI hw (s_boxes hI hw (fun ψ1 => ?_))))
  generalize hc : min 99 (x + wide) = c at hw
  generalize hd : min 99 (y + high) = d at hw
  show wp_L_isSeen_166 Q sC σ sH sO x y wide high sB ψ1 c d 0 1
  refine jx_loop (fun v => 0 ≤ v.2.2 ∧ v.2.2 ≤ σ 2 (σ 7 0) + 1 ∧ v.2.1 = sR (fun l => smL (gTo σ (bo x y c d)) (row σ l)) v.2.2.toNat) (fun v => (σ 2 (σ 7 0) + 1 - v.2.2).toNat) (fun B v hJ hB => ?_) ⟨Int.le_refl _, by dsimp only; omega, rfl⟩
  obtain ⟨ψ2, n, l⟩ := v
  obtain ⟨j1, j2, j3⟩ := hJ
  dsimp only at j1 j2 j3
  show wp_L_isSeen_169 Q sC σ sH sO x y wide high _ sB c d 1 B ψ2 n l
  refine q_count hI o1 (fun ψ3 => ?_)
  have e1 : aK sC σ sH sO 1 = σ 2 (σ 7 0) + 1 := rfl
  rw [e1]
  refine ⟨jx_inR (by omega) (by omega), jx_inR (by omega) (by omega), fun q => s_nodes hI hw j1 (by omega) (fun ψ4 => hB _ ⟨by dsimp only; omega, by dsimp only; omega, ?_⟩ (by dsimp only; omega)), fun q => ?_⟩
  · dsimp only
    rw [show (l + 1).toNat = l.toNat + 1 by omega]
    simp only [sR]
    rw [j3, toNat_cast j1]
  · show wp_L_isSeen_270 Q sC σ sH sO x y wide high sB ψ3 c d n 1
    refine ⟨o1, fun z => absurd z (by decide), fun _ => q_window1 hI hw (fun ψ4 => ?_)⟩
    have e : n = smL (gD σ (gTo σ (bo x y c d))) nds := by
      rw [all_sum hI, j3, show l = σ 2 (σ 7 0) + 1 by omega]
    exact ⟨Or.inr e, fun _ => s_near hI hx hy h, fun z => absurd e z⟩
