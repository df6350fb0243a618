/-! ===== the pure part: the reference's best way ===== -/
theorem g_183 {μ : jx_St} {n : Int} : ∃ b : jx_St, ((∀ z, z ≠ 22 → b z = μ z) ∧ ∀ j, 0 ≤ j → j < 5 → b 22 j = μ 21 j) ∧ ∀ (g : (Int → jx_St → Prop) × Int × Int × Int × Int × Int) (K : jx_St → Prop), K b → jx_lp (fun B v => wp_M_splits_183 g.1 n K g.2.1 g.2.2.1 g.2.2.2.1 g.2.2.2.2.1 g.2.2.2.2.2 B v.1 v.2) (μ, 0) := by
  refine go_loop (γ := (Int → jx_St → Prop) × Int × Int × Int × Int × Int) (F := fun g K B (v : jx_St × Int) => wp_M_splits_183 g.1 n K g.2.1 g.2.2.1 g.2.2.2.1 g.2.2.2.2.1 g.2.2.2.2.2 B v.1 v.2) (fun v => 0 ≤ v.2 ∧ v.2 ≤ 5 ∧ (∀ z, z ≠ 22 → v.1 z = μ z) ∧ ∀ j, 0 ≤ j → j < v.2 → v.1 22 j = μ 21 j) (fun v => (5 - v.2).toNat) _ (fun v hI => ?_) ⟨Int.le_refl _, by show (0 : Int) ≤ 5; decide, fun _ _ => rfl, fun j j0 j1 => by exfalso; dsimp only at j1; omega⟩
  obtain ⟨μ1, k⟩ := v
  obtain ⟨a1, a2, a3, a4⟩ := hI
  dsimp only at a1 a2 a3 a4 ⊢
  by_cases q : k < 5
  · right
    refine ⟨(jx_su μ1 22 k (μ1 21 k), k + 1), ⟨by dsimp only; omega, by dsimp only; omega, fun z hz => by funext j; dsimp only; rw [jx_su_ne hz, a3 z hz], fun j j0 j1 => ?_⟩, by dsimp only; omega, fun g K B hB => ⟨jx_inR (by omega) (by omega), fun _ => ⟨⟨a1, q⟩, ⟨a1, q⟩, hB⟩, fun z => absurd q z⟩⟩
    dsimp only at j1 ⊢
    rw [jx_su_same]
    by_cases z : j = k
    · rw [if_pos z, a3 21 (by decide), z]
    · rw [if_neg z]; exact a4 j j0 (by omega)
  · left
    have e : k = 5 := by omega
    subst e
    exact ⟨μ1, ⟨a3, a4⟩, fun g K B hK => ⟨jx_inR (by decide) (by decide), fun z => absurd z q, fun _ => hK⟩⟩
theorem g_ways {σ μ : jx_St} {P : List (Int × Int)} {n : Int} (hW : Ws σ P []) (hV : Vh σ) (hA : Ag σ μ) (hL : La σ μ) (hn : lvn σ n) (h5 : σ 3 n = 5) : ∃ b : jx_St × Int, ((∀ z, z ≠ 9 → z ≠ 10 → z ≠ 21 → z ≠ 22 → b.1 z = μ z) ∧ b.2 = scu σ n ∧ ∀ j, 0 ≤ j → j < 5 → b.1 22 j = sth σ n j) ∧ ∀ (g : Int → jx_St → Prop) (K : jx_St × Int → Prop), K b → jx_lp (fun B v => wp_M_splits_21 g n K (σ 2 n) B v.1 v.2.1 v.2.2.1 v.2.2.2.1 v.2.2.2.2) (μ, -1, 0, 0, 0) := by
  have hlR := hW.R2 hn
  have hsd : ∀ k, 0 ≤ k → k < 5 → sdk σ μ (th σ n k) (σ 2 n) := fun k k0 k1 => sdk_row hW hn (fun y hy h0 => by
    have h2 := hW.kid hn h0 hy
    exact (hL y h2.1).1 (by have := ((hW.2.2.2.1 y h2.1).2.2.resolve_left List.not_mem_nil).1 h2.2.2.2; omega)) k0 (by omega)
  have hvt : ∀ k, 0 ≤ k → k < 5 → vb (hv σ (th σ n k) (σ 2 n)) := fun k k0 k1 => hV n k hn k0 (by omega)
  have hvb : ∀ ax j, 0 ≤ j → j < 5 → vb (wH σ n ax j) := fun ax j j0 j1 => by
    obtain ⟨i, i0, i1, e⟩ := srF_mem (key := fun x => kyF (hv σ x (σ 2 n)) ax) (row := th σ n) (k := 5) j0 j1
    unfold wH wS
    rw [e]
    exact hvt i i0 i1
  have hsw : ∀ ax j, 0 ≤ j → j < 5 → sdk σ μ (wS σ n ax j) (σ 2 n) := fun ax j j0 j1 => by
    obtain ⟨i, i0, i1, e⟩ := srF_mem (key := fun x => kyF (hv σ x (σ 2 n)) ax) (row := th σ n) (k := 5) j0 j1
    unfold wS
    rw [e]
    exact hsd i i0 i1
  have hvo : ∀ k, 0 ≤ k → k < 5 → vbo (hv σ (th σ n k) (σ 2 n)) := fun k a b => Or.inr (hvt k a b)
  refine go_loop (γ := Int → jx_St → Prop) (F := fun g K B (v : jx_St × Int × Int × Int × Int) => wp_M_splits_21 g n K (σ 2 n) B v.1 v.2.1 v.2.2.1 v.2.2.2.1 v.2.2.2.2) (fun v => 0 ≤ v.2.2.2.2 ∧ v.2.2.2.2 ≤ 4 ∧ (∀ z, z ≠ 9 → z ≠ 10 → z ≠ 21 → z ≠ 22 → v.1 z = μ z) ∧ v.2.1 = (if (bwS σ n v.2.2.2.2.toNat).1 = -1 then -1 else 2 + (bwS σ n v.2.2.2.2.toNat).1 % 2) ∧ v.2.2.1 = (bwS σ n v.2.2.2.2.toNat).2.1 ∧ v.2.2.2.1 = (bwS σ n v.2.2.2.2.toNat).2.2 ∧ ((bwS σ n v.2.2.2.2.toNat).1 ≠ -1 → ∀ j, 0 ≤ j → j < 5 → v.1 22 j = wS σ n ((bwS σ n v.2.2.2.2.toNat).1 / 2) j)) (fun v => (4 - v.2.2.2.2).toNat) _ (fun v hI => ?_) ⟨Int.le_refl _, by show (0 : Int) ≤ 4; decide, fun _ _ _ _ _ => rfl, rfl, rfl, rfl, fun z => absurd rfl z⟩
  obtain ⟨μ1, bt, bc, ba, w⟩ := v
  obtain ⟨a1, a2, a3, a4, a5, a6, a7⟩ := hI
  dsimp only at a1 a2 a3 a4 a5 a6 a7 ⊢
  have ew : ((w.toNat : Nat) : Int) = w := Int.toNat_of_nonneg a1
  have bd := bwS_bd hvo w.toNat
  have hbt : bt = -1 ↔ (bwS σ n w.toNat).1 = -1 := by
    rw [a4]
    split
    · next z => exact ⟨fun _ => z, fun _ => rfl⟩
    · next z => exact ⟨fun q => by omega, fun q => absurd q z⟩
  have hbR : -1 ≤ bt ∧ bt ≤ 3 := by rw [a4]; split <;> omega
  by_cases q : w < 4
  · right
    obtain ⟨d1, d2⟩ := div_ok a1 q
    have hp : 2 ≤ 2 + w % 2 ∧ 2 + w % 2 ≤ 3 := by omega
    have hA1 : Ag σ μ1 := hA.of (a3 0 (by decide) (by decide) (by decide) (by decide))
    obtain ⟨μ2, ⟨s1, s2⟩, sg⟩ := g_sorts hW hA1 hn h5 (ax := w / 2) (by omega) (fun k k0 k1 => (hsd k k0 k1).of (fun _ j _ _ => by rw [a3 7 (by decide) (by decide) (by decide) (by decide)]))
    have hA2 : Ag σ μ2 := hA1.of (s1 0 (by decide))
    have f2 : μ2 7 = μ 7 := by rw [s1 7 (by decide), a3 7 (by decide) (by decide) (by decide) (by decide)]
    obtain ⟨μ3, ⟨t1, t2⟩, tg⟩ := g_takes_one hA2 ((hsw (w / 2) 0 (by decide) (by decide)).of (μ' := μ2) (fun _ j _ _ => by rw [f2])) hlR
    have hA3 : Ag σ μ3 := hA2.of (t1 0 (by decide))
    have f3 : μ3 7 = μ 7 := by rw [t1 7 (by decide), f2]
    obtain ⟨μ4, ⟨u1, u2⟩, ug⟩ := g_takes_two hA3 ((hsw (w / 2) (2 + w % 2) (by omega) (by omega)).of (μ' := μ3) (fun _ j _ _ => by rw [f3])) hlR
    have hA4 : Ag σ μ4 := hA3.of (u1 0 (by decide))
    have f4 : μ4 7 = μ 7 := by rw [u1 7 (by decide), f3]
    have e321 : ∀ j, 0 ≤ j → j < 5 → μ3 21 j = wS σ n (w / 2) j := fun j j0 j1 => by rw [t1 21 (by decide)]; exact s2 j j0 j1
    have e421 : ∀ j, 0 ≤ j → j < 5 → μ4 21 j = wS σ n (w / 2) j := fun j j0 j1 => by rw [u1 21 (by decide)]; exact e321 j j0 j1
    obtain ⟨μ5, ⟨v1, v2, v3⟩, vg⟩ := g_78 (part := 2 + w % 2) hA4 hlR hp e421 (fun j j0 j1 => (hsw (w / 2) j j0 j1).of (μ' := μ4) (fun _ j _ _ => by rw [f4])) (hvb (w / 2)) (by
      have t2' : Ms μ3 9 (wH σ n (w / 2) 0) := t2
      unfold Ms at t2' ⊢
      rw [u1 9 (by decide)]
      exact t2') u2
    have vA : vb (wA σ n w) := hpF_vb _ (by omega) (fun j j0 j1 => hvb _ j j0 (by omega))
    have vB : vb (wB σ n w) := hpF_vb _ (by omega) (fun j j0 j1 => hvb _ j (by omega) (by omega))
    have v2' : Ms μ5 9 (wA σ n w) := v2
    have v3' : Ms μ5 10 (wB σ n w) := v3
    have c := coF_bd (Or.inr vA) (Or.inr vB)
    have ra := arF_bd (Or.inr vA)
    have rb := arF_bd (Or.inr vB)
    have fr5 : ∀ z, z ≠ 9 → z ≠ 10 → z ≠ 21 → μ5 z = μ1 z := fun z z9 z10 z21 => by rw [v1 z z9 z10, u1 z z10, t1 z z9, s1 z z21]
    have lead : ∀ (g : Int → jx_St → Prop) (K : jx_St × Int → Prop) (B : jx_St × Int × Int × Int × Int → Prop), wp_M_splits_120 g n B K μ5 (σ 2 n) bt bc ba w (2 + w % 2) → wp_M_splits_21 g n K (σ 2 n) B μ1 bt bc ba w := by
      intro g K B h
      unfold wp_M_splits_21
      rw [d1, d2]
      refine ⟨jx_inR (by omega) (by omega), fun _ => sg _ ?_, fun z => absurd q z⟩
      rw [s2 0 (by decide) (by decide)]
      refine tg _ ⟨⟨by omega, by show 2 + w % 2 < 5; omega⟩, ?_⟩
      rw [e321 _ (by omega) (by omega)]
      exact ug _ (vg (g, B, K, bt, bc, ba, w) _ h)
    by_cases cc : (bwS σ n w.toNat).1 = -1 ∨ coF (wA σ n w) (wB σ n w) < (bwS σ n w.toNat).2.1 ∨ (coF (wA σ n w) (wB σ n w) = (bwS σ n w.toNat).2.1 ∧ arF (wA σ n w) + arF (wB σ n w) < (bwS σ n w.toNat).2.2)
    · obtain ⟨μ6, ⟨x1, x2⟩, xg⟩ := g_183 (μ := μ5) (n := n)
      have eb : bwS σ n (w + 1).toNat = (w, coF (wA σ n w) (wB σ n w), arF (wA σ n w) + arF (wB σ n w)) := by
        rw [show (w + 1).toNat = w.toNat + 1 by omega]
        simp only [bwS, ew]
        rw [if_pos cc]
      refine ⟨(μ6, 2 + w % 2, coF (wA σ n w) (wB σ n w), arF (wA σ n w) + arF (wB σ n w), w + 1), ⟨by dsimp only; omega, by dsimp only; omega, fun z z9 z10 z21 z22 => by dsimp only; rw [x1 z z22, fr5 z z9 z10 z21, a3 z z9 z10 z21 z22], ?_, ?_, ?_, fun _ j j0 j1 => ?_⟩, by dsimp only; omega, fun g K B hB => lead g K B ?_⟩
      · dsimp only; rw [eb, if_neg (show ¬ w = -1 by omega)]
      · dsimp only; rw [eb]
      · dsimp only; rw [eb]
      · dsimp only; rw [eb, x2 j j0 j1, v1 21 (by decide) (by decide)]; exact e421 j j0 j1
      · have yes : wp_M_splits_169 g n B K μ5 (σ 2 n) w (2 + w % 2) (coF (wA σ n w) (wB σ n w)) (arF (wA σ n w) + arF (wB σ n w)) := xg (g, σ 2 n, 2 + w % 2, coF (wA σ n w) (wB σ n w), arF (wA σ n w) + arF (wB σ n w), w) _ hB
        refine m_common vA vB v2' v3' ?_
        rw [ms_area v2' vA, ms_area v3' vB]
        rw [← a5, ← a6, ← hbt] at cc
        exact ⟨jx_inR (by omega) (by omega), fun _ => yes, fun e1 => ⟨jx_inR (by omega) (by omega), jx_inR (by omega) (by omega), fun _ => yes, fun e2 => ⟨jx_inR (by omega) (by omega), jx_inR (by omega) (by omega), fun e3 => ⟨jx_inR (by omega) (by omega), jx_inR (by omega) (by omega), fun _ => yes, fun e4 => absurd cc (by omega)⟩, fun e3 => absurd cc (by omega)⟩⟩⟩
    · have eb : bwS σ n (w + 1).toNat = bwS σ n w.toNat := by
        rw [show (w + 1).toNat = w.toNat + 1 by omega]
        simp only [bwS, ew]
        rw [if_neg cc]
      refine ⟨(μ5, bt, bc, ba, w + 1), ⟨by dsimp only; omega, by dsimp only; omega, fun z z9 z10 z21 z22 => by dsimp only; rw [fr5 z z9 z10 z21, a3 z z9 z10 z21 z22], ?_, ?_, ?_, fun hne j j0 j1 => ?_⟩, by dsimp only; omega, fun g K B hB => lead g K B ?_⟩
      · dsimp only; rw [eb]; exact a4
      · dsimp only; rw [eb]; exact a5
      · dsimp only; rw [eb]; exact a6
      · dsimp only at hne ⊢
        rw [eb] at hne ⊢
        rw [fr5 22 (by decide) (by decide) (by decide)]
        exact a7 hne j j0 j1
      · refine m_common vA vB v2' v3' ?_
        rw [ms_area v2' vA, ms_area v3' vB]
        rw [← a5, ← a6, ← hbt] at cc
        exact ⟨jx_inR (by omega) (by omega), fun e1 => absurd (Or.inl e1) cc, fun e1 => ⟨jx_inR (by omega) (by omega), jx_inR (by omega) (by omega), fun e2 => absurd (Or.inr (Or.inl e2)) cc, fun e2 => ⟨jx_inR (by omega) (by omega), jx_inR (by omega) (by omega), fun e3 => ⟨jx_inR (by omega) (by omega), jx_inR (by omega) (by omega), fun e4 => absurd (Or.inr (Or.inr ⟨e3, e4⟩)) cc, fun _ => hB⟩, fun _ => hB⟩⟩⟩
  · left
    have e : w = 4 := by omega
    subst e
    have b0 : 0 ≤ (bwS σ n 4).1 := (bwS_bd hvo 4).2.2.1 (by decide)
    have hne : ¬ (bwS σ n 4).1 = -1 := by omega
    refine ⟨(μ1, bt), ⟨a3, ?_, a7 hne⟩, fun g K B hK => ⟨jx_inR (by decide) (by decide), fun z => absurd z q, fun _ => hK⟩⟩
    dsimp only
    rw [a4]
    exact if_neg hne
