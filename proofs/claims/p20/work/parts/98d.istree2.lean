/-! ===== the property: isTree, nodes above the leaves; a node; a level ===== -/
theorem t_inner {Q : Int → jx_St → Prop} {sB sC σ sH sO ψ : jx_St} {K : jx_St × Int × Int × Int × Int × Int × Int → Prop} {l1 l2 l3 l4 l7 l x : Int} {p : Nat} (hI : Inv σ) (lp : 1 ≤ l) (lq : l ≤ σ 2 (σ 7 0)) (hp : (row σ l)[p]? = some x)
    (h : ∀ ψ' a b c d, (1 ≤ σ 3 x → a = bs (σ 4 x) 0 ∧ b = bs (σ 4 x) 1 ∧ c = bs (σ 4 x) 2 ∧ d = bs (σ 4 x) 3) → jx_R a ∧ jx_R b ∧ jx_R c ∧ jx_R d → K (ψ', 1, a, b, c, d, σ 3 x)) :
    jx_lp (fun B95v v95 => wp_L_isTree_95 Q sB sC σ sH sO K l1 l2 l3 l4 l l7 (p : Int) (σ 3 x) (blw σ l p) B95v v95.1 v95.2.1 v95.2.2.1 v95.2.2.2.1 v95.2.2.2.2.1 v95.2.2.2.2.2.1 v95.2.2.2.2.2.2.1 v95.2.2.2.2.2.2.2) (ψ, 1, 100, 100, (-1), (-1), 0, 0) := by
  obtain ⟨hx, he⟩ := (mem_row hI.1).mp (List.mem_of_getElem? hp)
  have s3 := node_size hI hx
  have l3' := hI.1.1.2.1
  have kd : ∀ k, 0 ≤ k → k < σ 3 x → lvn σ (th σ x k) ∧ 2 ≤ σ 3 (th σ x k) ∧ hv σ (th σ x k) (σ 2 x) = σ 4 (th σ x k) := fun k k0 k1 => by
    obtain ⟨a, b, c, d⟩ := hI.1.kid hx (by omega) (th_kids k0 k1)
    refine ⟨a, (node_size hI a).2.2.2 d, ?_⟩
    unfold hv
    rw [if_neg (by omega)]
  have side : ∀ q, 0 ≤ q → q < 4 → ∀ k, 0 ≤ k → k < σ 3 x → (q < 2 → bs (σ 4 x) q ≤ bs (σ 4 (th σ x k)) q) ∧ (¬ q < 2 → bs (σ 4 (th σ x k)) q ≤ bs (σ 4 x) q) := fun q q0 q1 k k0 k1 => by
    have h2 := (hull_side hI hx (by omega) q0 q1).2 k k0 k1
    rw [(kd k k0 k1).2.2] at h2
    exact h2
  have att : ∀ q, 0 ≤ q → q < 4 → 1 ≤ σ 3 x → ∃ y, (∃ j, 0 ≤ j ∧ j < σ 3 x ∧ y = th σ x j) ∧ bs (σ 4 x) q = bs (σ 4 y) q := fun q q0 q1 h1 => by
    obtain ⟨j, j0, j1, e⟩ := (hull_side hI hx h1 q0 q1).1
    rw [(kd j j0 j1).2.2] at e
    exact ⟨_, ⟨j, j0, j1, rfl⟩, e⟩
  have hv4 : 1 ≤ σ 3 x → bs (σ 4 x) 0 ≤ 100 ∧ bs (σ 4 x) 1 ≤ 100 := fun c => by
    obtain ⟨_, _, a1, a2, a3, a4⟩ := vh_hull hI.1 hI.2.1 hx c
    omega
  have g127 := fun b w => bs_127 b w
  have b0 : 0 ≤ blw σ l p := by unfold blw; omega
  have b1 : ∀ k, 0 ≤ k → k < σ 3 x → blw σ l p + k < 32 := fun k k0 k1 => by
    have h1 := (List.getElem?_eq_some_iff.mp (kid_at lp lq hp k0 k1)).1
    have h2 := row_len hI.1 (l - 1)
    omega
  refine jx_loop (fun v => v.2.1 = 1 ∧ 0 ≤ v.2.2.2.2.2.2.2 ∧ v.2.2.2.2.2.2.2 ≤ σ 3 x ∧ v.2.2.2.2.2.2.1 = v.2.2.2.2.2.2.2 ∧ mnI (fun y => bs (σ 4 y) 0) (fun y => ∃ j, 0 ≤ j ∧ j < v.2.2.2.2.2.2.2 ∧ y = th σ x j) (1 ≤ σ 3 x) (bs (σ 4 x) 0) v.2.2.1 ∧ mnI (fun y => bs (σ 4 y) 1) (fun y => ∃ j, 0 ≤ j ∧ j < v.2.2.2.2.2.2.2 ∧ y = th σ x j) (1 ≤ σ 3 x) (bs (σ 4 x) 1) v.2.2.2.1 ∧ mxI (fun y => bs (σ 4 y) 2) (fun y => ∃ j, 0 ≤ j ∧ j < v.2.2.2.2.2.2.2 ∧ y = th σ x j) (1 ≤ σ 3 x) (bs (σ 4 x) 2) v.2.2.2.2.1 ∧ mxI (fun y => bs (σ 4 y) 3) (fun y => ∃ j, 0 ≤ j ∧ j < v.2.2.2.2.2.2.2 ∧ y = th σ x j) (1 ≤ σ 3 x) (bs (σ 4 x) 3) v.2.2.2.2.2.1) (fun v => (σ 3 x - v.2.2.2.2.2.2.2).toNat) (fun B v hJ hB => ?_)
    ⟨rfl, Int.le_refl _, s3.1, rfl, ⟨by dsimp only; omega, by dsimp only; omega, fun y hy => by obtain ⟨j, j0, j1, _⟩ := hy; dsimp only at j1; omega, fun c => (hv4 c).1⟩, ⟨by dsimp only; omega, by dsimp only; omega, fun y hy => by obtain ⟨j, j0, j1, _⟩ := hy; dsimp only at j1; omega, fun c => (hv4 c).2⟩, ⟨by dsimp only; omega, by dsimp only; omega, fun y hy => by obtain ⟨j, j0, j1, _⟩ := hy; dsimp only at j1; omega, fun _ => by have := g127 (σ 4 x) 2; dsimp only; omega⟩, ⟨by dsimp only; omega, by dsimp only; omega, fun y hy => by obtain ⟨j, j0, j1, _⟩ := hy; dsimp only at j1; omega, fun _ => by have := g127 (σ 4 x) 3; dsimp only; omega⟩⟩
  obtain ⟨ψ1, is, a, b, c, d, found, k⟩ := v
  obtain ⟨j1, j2, j3, j4, j5, j6, j7, j8⟩ := hJ
  dsimp only at j1 j2 j3 j4 j5 j6 j7 j8
  show wp_L_isTree_95 Q sB sC σ sH sO K l1 l2 l3 l4 l l7 (p : Int) (σ 3 x) (blw σ l p) B ψ1 is a b c d found k
  subst j1
  have kR : jx_R k := jx_inR (by omega) (by omega)
  have lR : jx_R l := jx_inR (by omega) (by omega)
  have l1R : jx_R (l - 1) := jx_inR (by omega) (by omega)
  have o1 := R_lit 1 (by decide)
  refine ⟨lR, fun z => absurd z (by omega), fun _ => ⟨kR, jx_inR (by omega) (by omega), fun q => ⟨lR, fun z => absurd z (by omega), fun _ => ?_⟩, fun q => ?_⟩⟩
  · show wp_L_isTree_133 Q sB sC σ sH sO B K ψ1 l1 l2 l3 l4 1 l l7 (p : Int) (σ 3 x) _ a b c d found k 1
    refine ⟨o1, fun z => absurd z (by decide), fun _ => ⟨o1, fun z => absurd z (by decide), fun _ => ⟨lR, fun z => absurd z (by omega), fun _ => ⟨o1, fun z => absurd z (by decide), fun _ => ?_⟩⟩⟩⟩
    obtain ⟨c1', c2', c3'⟩ := kd k j2 q
    have hat := kid_at lp lq hp j2 q
    have sd : ∀ w, 0 ≤ w → w < 4 → aN σ (l - 1) (blw σ l p + k) w = bs (σ 4 (th σ x k)) w := fun w w0 w1 => aN_side (by omega) (by omega) hat (by omega) w0 w1
    have bR : jx_R (blw σ l p + k) := jx_inR (by omega) (by have := b1 k j2 q; omega)
    have ofR := fun w => bs_R (σ 4 (th σ x k)) w
    refine q_nodeOf hI l1R bR (R_lit 0 (by decide)) (fun _ => ?_)
    rw [sd 0 (by decide) (by decide)]
    refine q_lesser j5.R (ofR _) (q_nodeOf hI l1R bR o1 (fun _ => ?_))
    rw [sd 1 (by decide) (by decide)]
    refine q_lesser j6.R (ofR _) (q_nodeOf hI l1R bR (R_lit 2 (by decide)) (fun _ => ?_))
    rw [sd 2 (by decide) (by decide)]
    refine q_greater j7.R (ofR _) (q_nodeOf hI l1R bR (R_lit 3 (by decide)) (fun _ => ?_))
    rw [sd 3 (by decide) (by decide)]
    refine q_greater j8.R (ofR _) ?_
    have spl : ∀ y, (∃ j, 0 ≤ j ∧ j < k + 1 ∧ y = th σ x j) → (∃ j, 0 ≤ j ∧ j < k ∧ y = th σ x j) ∨ y = th σ x k := fun y hy => by
      obtain ⟨j, j0, j1, e⟩ := hy
      by_cases z : j = k
      · exact Or.inr (by rw [e, z])
      · exact Or.inl ⟨j, j0, by omega, e⟩
    refine hB _ ⟨rfl, by dsimp only; omega, by dsimp only; omega, by dsimp only; omega, ?_, ?_, ?_, ?_⟩ (by dsimp only; omega)
    · exact j5.step (z := th σ x k) (g127 _ _).1 ((side 0 (by decide) (by decide) k j2 q).1 (by decide)) (fun y hy => (spl y hy).imp id (fun e => by rw [e]))
    · exact j6.step (z := th σ x k) (g127 _ _).1 ((side 1 (by decide) (by decide) k j2 q).1 (by decide)) (fun y hy => (spl y hy).imp id (fun e => by rw [e]))
    · exact j7.step (z := th σ x k) (by have := (g127 (σ 4 (th σ x k)) 2).2; omega) ((side 2 (by decide) (by decide) k j2 q).2 (by decide)) (fun y hy => (spl y hy).imp id (fun e => by rw [e]))
    · exact j8.step (z := th σ x k) (by have := (g127 (σ 4 (th σ x k)) 3).2; omega) ((side 3 (by decide) (by decide) k j2 q).2 (by decide)) (fun y hy => (spl y hy).imp id (fun e => by rw [e]))
  · have ek : k = σ 3 x := by omega
    subst ek
    rw [j4]
    refine h ψ1 a b c d (fun c1' => ?_) ⟨j5.R, j6.R, j7.R, j8.R⟩
    exact ⟨j5.fin c1' (att 0 (by decide) (by decide) c1'), j6.fin c1' (att 1 (by decide) (by decide) c1'), j7.fin c1' (att 2 (by decide) (by decide) c1'), j8.fin c1' (att 3 (by decide) (by decide) c1')⟩
/-- behind the inner loop -/
theorem t_node {Q : Int → jx_St → Prop} {sB sC σ sH sO ψ : jx_St} {B36 : jx_St × Int × Int × Int × Int × Int × Int → Prop} {K546 : jx_St × Int × Int × Int × Int × Int × Int → Prop} {l2 l3 l4 l7 l10 l x a b c d : Int} {p : Nat} (hI : Inv σ) (l0 : 0 ≤ l) (lq : l ≤ σ 2 (σ 7 0)) (hp : (row σ l)[p]? = some x) (h10 : 0 < l → l10 = l7)
    (hc : 1 ≤ σ 3 x → a = bs (σ 4 x) 0 ∧ b = bs (σ 4 x) 1 ∧ c = bs (σ 4 x) 2 ∧ d = bs (σ 4 x) 3) (hR : jx_R a ∧ jx_R b ∧ jx_R c ∧ jx_R d)
    (h : ∀ ψ', B36 (ψ', l2 + 1, l3 + (if l = 0 then arF (σ 4 x) else 0), l4 + (if l = 0 then σ 3 x else 0), 1, l7 + σ 3 x, (p : Int) + 1)) :
    wp_L_isTree_360 Q sB sC σ sH sO B36 K546 ψ (σ 2 (σ 7 0) + 1) l2 l3 l4 1 l l7 (p : Int) (σ 3 x) l10 a b c d (σ 3 x) := by
  obtain ⟨hx, he⟩ := (mem_row hI.1).mp (List.mem_of_getElem? hp)
  have s3 := node_size hI hx
  have l3' := hI.1.1.2.1
  have rl := row_len hI.1 l
  have pl' := (List.getElem?_eq_some_iff.mp hp).1
  have o1 := R_lit 1 (by decide)
  have lR : jx_R l := jx_inR (by omega) (by omega)
  have pR : jx_R (p : Int) := jx_inR (by omega) (by omega)
  have sR : jx_R (σ 3 x) := jx_inR (by omega) (by omega)
  have hp' : (row σ l)[((p : Int)).toNat]? = some x := by rw [Int.toNat_natCast]; exact hp
  -- the end
  have fin : ∀ ψ', wp_L_isTree_479 Q sB sC σ sH sO B36 K546 ψ' (σ 2 (σ 7 0) + 1) l2 l3 l4 l l7 (p : Int) (σ 3 x) a b c d := fun ψ' => by
    have h := h ψ'
    refine ⟨lR, fun e0 => ⟨sR, fun e => ?_, fun e => ?_⟩, fun e0 => ?_⟩
    · rw [if_pos e0, if_pos e0, hull_0 hI.1 hI.2.1 hx e] at h
      exact ⟨lR, fun _ => h, fun z => absurd e0 z⟩
    · rw [if_pos e0, if_pos e0] at h
      obtain ⟨c1', c2', c3', c4'⟩ := hc (by omega)
      have hv := vh_hull hI.1 hI.2.1 hx (show 1 ≤ σ 3 x by omega)
      have ea : arF (σ 4 x) = (c - a) * (d - b) := by
        unfold arF
        rw [if_neg (by have := hv.1; omega), c1', c2', c3', c4']
      rw [ea] at h
      exact ⟨lR, fun _ => h, fun z => absurd e0 z⟩
    · rw [if_neg e0, if_neg e0] at h
      exact ⟨lR, fun z => absurd z e0, fun _ => h⟩
  -- the sides
  have sides : wp_L_isTree_401 Q sB sC σ sH sO B36 K546 ψ (σ 2 (σ 7 0) + 1) l2 l3 l4 l l7 (p : Int) (σ 3 x) a b c d := by
    refine ⟨sR, fun e => q_nodeOf hI lR pR (R_lit 0 (by decide)) (fun ψ' => ?_), fun e => ?_⟩
    · have en : aN σ l (p : Int) 0 = -1000004 := by
        unfold aN
        rw [if_neg (by omega), hp']
        dsimp only
        rw [if_neg (by decide), if_neg (by decide), if_pos e]
      rw [en]
      exact ⟨Or.inr rfl, fun _ => fin ψ', fun z => absurd rfl z⟩
    · obtain ⟨c1', c2', c3', c4'⟩ := hc (by omega)
      have sd : ∀ w, 0 ≤ w → w < 4 → aN σ l (p : Int) w = bs (σ 4 x) w := fun w w0 w1 => aN_side l0 (by omega) hp' e w0 w1
      refine q_nodeOf hI lR pR (R_lit 0 (by decide)) (fun ψ' => ?_)
      rw [sd 0 (by decide) (by decide), ← c1']
      refine ⟨Or.inr rfl, fun _ => q_nodeOf hI lR pR o1 (fun ψ' => ?_), fun z => absurd rfl z⟩
      rw [sd 1 (by decide) (by decide), ← c2']
      refine ⟨Or.inr rfl, fun _ => q_nodeOf hI lR pR (R_lit 2 (by decide)) (fun ψ' => ?_), fun z => absurd rfl z⟩
      rw [sd 2 (by decide) (by decide), ← c3']
      refine ⟨Or.inr rfl, fun _ => q_nodeOf hI lR pR (R_lit 3 (by decide)) (fun ψ' => ?_), fun z => absurd rfl z⟩
      rw [sd 3 (by decide) (by decide), ← c4']
      exact ⟨Or.inr rfl, fun _ => fin ψ', fun z => absurd rfl z⟩
  have few : wp_L_isTree_384 Q sB sC σ sH sO B36 K546 ψ (σ 2 (σ 7 0) + 1) l2 l3 l4 l l7 (p : Int) (σ 3 x) a b c d := by
    refine ⟨sR, fun _ => ⟨sR, fun e => ?_, fun _ => sides⟩, fun z => absurd s3.2.1 z⟩
    have e1 : σ 2 (σ 7 0) + 1 = 1 := by
      by_cases z : 0 < σ 2 (σ 7 0)
      · have := s3.2.2.1 z; omega
      · have := hI.1.1.1.2; omega
    exact ⟨Or.inr e1, fun _ => sides, fun z => absurd e1 z⟩
  refine ⟨o1, fun z => absurd z (by decide), fun _ => ⟨Or.inr rfl, fun _ => ⟨lR, fun _ => few, fun z => ⟨Or.inr (h10 (by omega)), fun _ => few, fun y => absurd (h10 (by omega)) y⟩⟩, fun z => absurd rfl z⟩⟩
/-- a level -/
theorem t_level {Q : Int → jx_St → Prop} {sB sC σ sH sO ψ : jx_St} {K : jx_St × Int × Int × Int × Int × Int × Int → Prop} {l2 l3 l4 l : Int} (hI : Inv σ) (l0 : 0 ≤ l) (lq : l ≤ σ 2 (σ 7 0))
    (h : ∀ ψ', K (ψ', l2 + ((row σ l).length : Int), l3 + (if l = 0 then smL (fun x => arF (σ 4 x)) (row σ l) else 0), l4 + (if l = 0 then blw σ l (row σ l).length else 0), 1, blw σ l (row σ l).length, ((row σ l).length : Int))) :
    jx_lp (fun B36v v36 => wp_L_isTree_36 Q sB sC σ sH sO K (σ 2 (σ 7 0) + 1) l B36v v36.1 v36.2.1 v36.2.2.1 v36.2.2.2.1 v36.2.2.2.2.1 v36.2.2.2.2.2.1 v36.2.2.2.2.2.2) (ψ, l2, l3, l4, 1, 0, 0) := by
  have l3' := hI.1.1.2.1
  have rl := row_len hI.1 l
  have lR : jx_R l := jx_inR (by omega) (by omega)
  have o1 := R_lit 1 (by decide)
  refine jx_loop (fun v => ∃ p : Nat, v.2.2.2.2.2.2 = (p : Int) ∧ p ≤ (row σ l).length ∧ v.2.1 = l2 + (p : Int) ∧ v.2.2.1 = l3 + (if l = 0 then smL (fun x => arF (σ 4 x)) ((row σ l).take p) else 0) ∧ v.2.2.2.1 = l4 + (if l = 0 then blw σ l p else 0) ∧ v.2.2.2.2.1 = 1 ∧ v.2.2.2.2.2.1 = blw σ l p) (fun v => ((row σ l).length - v.2.2.2.2.2.2.toNat)) (fun B v hJ hB => ?_) ⟨0, rfl, Nat.zero_le _, by dsimp only; omega, by dsimp only; rw [List.take_zero]; split <;> simp [smL], by dsimp only; unfold blw; rw [List.take_zero]; split <;> simp, rfl, by unfold blw; rw [List.take_zero]; rfl⟩
  obtain ⟨ψ1, n2, n3, n4, n5, n7, n8⟩ := v
  obtain ⟨p, e8, pl', e2, e3, e4, e5, e7⟩ := hJ
  dsimp only at e8 e2 e3 e4 e5 e7
  show wp_L_isTree_36 Q sB sC σ sH sO K (σ 2 (σ 7 0) + 1) l B ψ1 n2 n3 n4 n5 n7 n8
  subst e5
  subst e8
  have pR : jx_R (p : Int) := jx_inR (by omega) (by omega)
  obtain ⟨m1, m2⟩ := aN4 hI l0 (show (0 : Int) ≤ (p : Int) by omega)
  rw [Int.toNat_natCast] at m2
  refine ⟨o1, fun z => absurd z (by decide), fun _ => q_nodeOf hI lR pR (R_lit 4 (by decide)) (fun ψ2 => ⟨m1, fun q => ?_, fun q => ?_⟩)⟩
  · have ep : p = (row σ l).length := Nat.le_antisymm pl' (m2.mp q)
    rw [e2, e3, e4, e7, ep, List.take_length]
    exact h ψ2
  · have hlt : p < (row σ l).length := Nat.lt_of_not_le (fun z => q (m2.mpr z))
    obtain ⟨x, hp, hx, he⟩ := row_at (l := l) hI.1 (p := (p : Int)) (by rw [Int.toNat_natCast]; exact hlt)
    have hp' := hp
    rw [Int.toNat_natCast] at hp
    refine q_nodeOf hI lR pR (R_lit 4 (by decide)) (fun ψ3 => q_nodeOf hI lR pR (R_lit 5 (by decide)) (fun ψ4 => ?_))
    rw [aN_some l0 (by omega) hp']
    have nxt : ∀ ψ', B (ψ', n2 + 1, n3 + (if l = 0 then arF (σ 4 x) else 0), n4 + (if l = 0 then σ 3 x else 0), 1, n7 + σ 3 x, (p : Int) + 1) := fun ψ' => by
      refine hB _ ⟨p + 1, by dsimp only; omega, hlt, by dsimp only; omega, ?_, ?_, rfl, ?_⟩ (by dsimp only; omega)
      · dsimp only
        rw [e3, (take_at hp).1, smL_app]
        by_cases z : l = 0
        · rw [if_pos z, if_pos z, if_pos z]
          show _ = l3 + (_ + (arF (σ 4 x) + 0))
          omega
        · rw [if_neg z, if_neg z, if_neg z]; omega
      · dsimp only
        rw [e4, blw_succ hI hp]
        by_cases z : l = 0
        · rw [if_pos z, if_pos z, if_pos z]; omega
        · rw [if_neg z, if_neg z, if_neg z]; omega
      · dsimp only
        rw [e7, blw_succ hI hp]
    by_cases z : l = 0
    · subst z
      rw [aN_set hp]
      exact t_leaf hI hp (fun ψ' a b c d hc hR => t_node hI (Int.le_refl _) lq hp (fun z => absurd z (by decide)) hc hR nxt)
    · rw [aN_first hI (by omega) lq hp]
      exact t_inner hI (by omega) lq hp (fun ψ' a b c d hc hR => t_node hI l0 lq hp (fun _ => e7.symm) hc hR nxt)
theorem q_isTree {Q : Int → jx_St → Prop} {sB sC sS σ sH sO : jx_St} (hI : Inv σ) (h : ∀ ψ', Q 1 ψ') : wp_L_isTree Q sB sC sS σ sH sO := by
  have l0 := hI.1.1.1.2
  have l3 := hI.1.1.2.1
  have o1 := R_lit 1 (by decide)
  refine q_count hI o1 (fun ψ0 => ?_)
  have ek : aK sC σ sH sO 1 = σ 2 (σ 7 0) + 1 := rfl
  rw [ek]
  have hR1 : jx_R (σ 2 (σ 7 0) + 1) := jx_inR (by omega) (by omega)
  have areas0 := areas_row hI
  have boxes0 := nBx_len hI
  refine jx_loop (fun v => 0 ≤ v.2.2.2.2.2 ∧ v.2.2.2.2.2 ≤ σ 2 (σ 7 0) + 1 ∧ v.2.1 = sR (fun l => ((row σ l).length : Int)) v.2.2.2.2.2.toNat ∧ v.2.2.1 = (if v.2.2.2.2.2 = 0 then 0 else smL (fun x => arF (σ 4 x)) (row σ 0)) ∧ v.2.2.2.1 = (if v.2.2.2.2.2 = 0 then 0 else nBx σ) ∧ v.2.2.2.2.1 = 1) (fun v => (σ 2 (σ 7 0) + 1 - v.2.2.2.2.2).toNat) (fun B v hJ hB => ?_) ⟨Int.le_refl _, by dsimp only; omega, rfl, rfl, rfl, rfl⟩
  obtain ⟨ψ1, n2, n3, n4, n5, l⟩ := v
  obtain ⟨j1, j2, j3, j4, j5, j6⟩ := hJ
  dsimp only at j1 j2 j3 j4 j5 j6
  show wp_L_isTree_19 Q sB sC σ sH sO _ (σ 2 (σ 7 0) + 1) B ψ1 n2 n3 n4 n5 l
  subst j6
  have lR : jx_R l := jx_inR (by omega) (by omega)
  refine ⟨lR, hR1, fun q => ⟨o1, fun z => absurd z (by decide), fun _ => ?_⟩, fun q => ?_⟩
  · refine t_level hI j1 (by omega) (fun ψ2 => ?_)
    have rl := row_len hI.1 l
    have ln1 : ¬ l + 1 = 0 := by omega
    generalize hN : ((row σ l).length : Int) = N
    generalize hBl : blw σ l (row σ l).length = bl
    have nxt : ∀ ψ', B (ψ', n2 + N, n3 + (if l = 0 then smL (fun x => arF (σ 4 x)) (row σ l) else 0), n4 + (if l = 0 then bl else 0), 1, l + 1) := fun ψ' => by
      refine hB _ ⟨by dsimp only; omega, by dsimp only; omega, ?_, ?_, ?_, rfl⟩ (by dsimp only; omega)
      · dsimp only
        rw [show (l + 1).toNat = l.toNat + 1 by omega]
        simp only [sR]
        rw [j3, toNat_cast j1, hN]
      · dsimp only
        rw [j4]
        by_cases z : l = 0
        · rw [if_pos z, if_pos z, if_neg ln1, z]; omega
        · rw [if_neg z, if_neg z, if_neg ln1]; omega
      · dsimp only
        rw [j5]
        by_cases z : l = 0
        · rw [if_pos z, if_pos z, if_neg ln1, boxes0, ← blw_all0, ← hBl, z]; omega
        · rw [if_neg z, if_neg z, if_neg ln1]; omega
    -- behind the level
    have e580 : ∀ (K : jx_St × Int × Int × Int × Int → Prop) ψ', wp_L_isTree_580 Q sB sC σ sH sO B K ψ' (σ 2 (σ 7 0) + 1) (n2 + N) (n3 + (if l = 0 then smL (fun x => arF (σ 4 x)) (row σ l) else 0)) (n4 + (if l = 0 then bl else 0)) l bl := fun K ψ' => by
      refine ⟨lR, fun _ => nxt ψ', fun z => ?_⟩
      have hbl := blw_all (σ := σ) (l := l) (by omega) (by omega)
      rw [hBl] at hbl
      have rl' := row_len hI.1 (l - 1)
      have l1R : jx_R (l - 1) := jx_inR (by omega) (by omega)
      have blR : jx_R bl := jx_inR (by omega) (by omega)
      refine q_nodeOf hI l1R blR (R_lit 4 (by decide)) (fun ψ3 => ?_)
      rw [aN_none (by omega) (by omega) (by decide) (by omega)]
      refine ⟨Or.inr rfl, fun _ => ?_, fun y => absurd rfl y⟩
      -- there is one
      have hpos : 0 < (row σ (l - 1)).length := by
        rcases Nat.eq_zero_or_pos (row σ (l - 1)).length with y | y
        · exfalso
          have hr0 : 0 < (row σ l).length ∨ (row σ l).length = 0 := by omega
          have hne : ∀ m : Nat, ∀ j : Int, 0 ≤ j → j ≤ σ 2 (σ 7 0) → σ 2 (σ 7 0) - j = (m : Int) → 0 < (row σ j).length := by
            intro m
            induction m with
            | zero =>
              intro j j0 j1 e
              rw [show j = σ 2 (σ 7 0) by omega, row_top hI.1]
              exact Nat.zero_lt_one
            | succ m ih =>
              intro j j0 j1 e
              have h1 := ih (j + 1) (by omega) (by omega) (by omega)
              obtain ⟨x, hx⟩ : ∃ x, x ∈ row σ (j + 1) := ⟨_, List.getElem_mem h1⟩
              obtain ⟨h2, h3⟩ := (mem_row hI.1).mp hx
              have hs := (node_size hI h2).2.2.1 (by omega)
              have : th σ x 0 ∈ row σ j := by
                rw [row_down j0 (by omega)]
                exact List.mem_flatMap.mpr ⟨x, hx, th_kids (Int.le_refl 0) (by omega)⟩
              exact List.length_pos_of_mem this
          have := hne (σ 2 (σ 7 0) - (l - 1)).toNat (l - 1) (by omega) (by omega) (by omega)
          omega
        · exact y
      refine q_nodeOf hI l1R (jx_inR (by omega) (by omega)) (R_lit 4 (by decide)) (fun ψ4 => ?_)
      obtain ⟨x, h1, h2, h3⟩ := row_at (l := l - 1) hI.1 (p := bl - 1) (by omega)
      rw [aN_some (by omega) (by omega) h1]
      have hne : x ≠ σ 7 0 := fun e => by rw [e] at h3; omega
      have hs := node_size hI h2
      have := hs.2.2.2 hne
      exact ⟨jx_inR (by omega) (by omega), fun y => absurd y (by omega), fun _ => nxt ψ4⟩
    have e565 : ∀ (K : jx_St × Int × Int × Int × Int → Prop) ψ', wp_L_isTree_565 Q sB sC σ sH sO B K ψ' (σ 2 (σ 7 0) + 1) (n2 + N) (n3 + (if l = 0 then smL (fun x => arF (σ 4 x)) (row σ l) else 0)) (n4 + (if l = 0 then bl else 0)) l bl N := fun K ψ' => by
      refine ⟨lR, fun z => q_count hI (R_lit 3 (by decide)) (fun ψ3 => ?_), fun _ => e580 K ψ'⟩
      have e3 : aK sC σ sH sO 3 = smL (gD σ (gLe σ)) nds := rfl
      have z0 : l = 0 := by omega
      rw [e3, leaves_row hI, ← hN, z0]
      have e580' := e580 K ψ3
      rw [← hN, z0] at e580'
      exact ⟨Or.inr rfl, fun _ => e580', fun y => absurd rfl y⟩
    refine ⟨o1, fun z => absurd (show (1 : Int) = 0 from z) (by decide), fun _ => ⟨lR, jx_inR (by omega) (by omega), fun _ => e565 _ ψ2, fun z => ?_⟩⟩
    have el : l = σ 2 (σ 7 0) := by omega
    have eN : N = 1 := by rw [← hN, el, row_top hI.1]; rfl
    exact ⟨Or.inr eN, fun _ => e565 _ ψ2, fun y => absurd eN y⟩
  · have el : l = σ 2 (σ 7 0) + 1 := by omega
    have ln : ¬ l = 0 := by omega
    rw [if_neg ln] at j4 j5
    show wp_L_isTree_630 Q sB sC σ sH sO ψ1 (σ 2 (σ 7 0) + 1) n2 n3 n4 1
    refine ⟨o1, fun z => absurd z (by decide), fun _ => q_count hI (R_lit 2 (by decide)) (fun ψ2 => ?_)⟩
    have e2 : aK sC σ sH sO 2 = smL (gD σ (fun _ => 1)) nds := rfl
    have g2 : n2 = smL (gD σ (fun _ => 1)) nds := by
      rw [all_sum hI, j3, el]
      exact sR_congr _ (fun l _ _ => (smL_1 _).symm)
    rw [e2, ← g2]
    refine ⟨Or.inr rfl, fun _ => q_count hI (R_lit 10 (by decide)) (fun ψ3 => ?_), fun y => absurd rfl y⟩
    have e10 : aK sC σ sH sO 10 = smL (gD σ (gAr σ)) nds := rfl
    rw [e10, areas0, ← j4]
    refine ⟨Or.inr rfl, fun _ => q_count hI (R_lit 0 (by decide)) (fun ψ4 => ?_), fun y => absurd rfl y⟩
    have e0 : aK sC σ sH sO 0 = nBx σ := rfl
    rw [e0, ← j5]
    refine ⟨Or.inr rfl, fun _ => q_overlaps hI (jx_inR (by omega) (by omega)) (fun ψ5 => ?_), fun y => absurd rfl y⟩
    have ev : aV σ (σ 2 (σ 7 0) + 1 - 1) = 0 := by
      unfold aV
      rw [show σ 2 (σ 7 0) + 1 - 1 = σ 2 (σ 7 0) by omega, if_neg (by omega), if_pos (by omega), row_top hI.1]
      rfl
    rw [ev]
    exact ⟨R_lit 0 (by decide), fun _ => h _, fun y => absurd rfl y⟩
