/-! ===== the pure part: the way of a box that is not there, in the reference ===== -/
theorem m_sideB {Q : Int → Prop} {μ : jx_St} {x k v : Int} (hb : nb x) (hs : ∀ k, 0 ≤ k → k < 4 → μ 0 (35 + 4 * x + k) = bs v k) (k0 : 0 ≤ k) (k1 : k < 4) (h : Q (bs v k)) : wp_M_side Q μ x 0 k := by
  have b0 := hb.1
  have b1 := hb.2
  refine ⟨R_lit 0 (by decide), fun _ => ⟨⟨by omega, by show 35 + 4 * x + k < 439; omega⟩, ?_⟩, fun z => absurd rfl z⟩
  rw [hs k k0 k1]
  exact h
theorem g_widens_oneB {μ : jx_St} {x c bx : Int} (hb : nb x) (hs : ∀ k, 0 ≤ k → k < 4 → μ 0 (35 + 4 * x + k) = bs bx k) (hc : vb c) (hx : vb bx) (hm : Ms μ 9 c) : ∃ b : jx_St, ((∀ z, z ≠ 9 → b z = μ z) ∧ Ms b 9 (ar c bx)) ∧ ∀ (Q : jx_St → Prop), Q b → wp_M_widens_one Q μ x 0 := by
  have loop : ∃ b : jx_St, ((∀ z, z ≠ 9 → b z = μ z) ∧ Ms b 9 (ar c bx)) ∧ ∀ (g : Unit) (K : jx_St → Prop), K b → jx_lp (fun B v => wp_M_widens_one_3 K x 0 B v.1 v.2) (μ, 0) := by
    refine go_loop (γ := Unit) (F := fun _ K B (v : jx_St × Int) => wp_M_widens_one_3 K x 0 B v.1 v.2) (fun v => 0 ≤ v.2 ∧ v.2 ≤ 4 ∧ (∀ z, z ≠ 9 → v.1 z = μ z) ∧ (∀ k, v.2 ≤ k → k < 4 → v.1 9 k = μ 9 k) ∧ ∀ k, 0 ≤ k → k < v.2 → v.1 9 k = bs (ar c bx) k) (fun v => (4 - v.2).toNat) _ (fun v hI => ?_) ⟨Int.le_refl _, by show (0 : Int) ≤ 4; decide, fun _ _ => rfl, fun _ _ _ => rfl, fun k k0 k1 => by exfalso; dsimp only at k1; omega⟩
    obtain ⟨μ1, k⟩ := v
    obtain ⟨a1, a2, a3, a5, a4⟩ := hI
    dsimp only at a1 a2 a3 a4 a5 ⊢
    by_cases q : k < 4
    · right
      have e : μ1 9 k = bs c k := by rw [a5 k (Int.le_refl _) q]; exact hm k a1 q
      have es := sw_ar hc hx a1 q
      refine ⟨(jx_su μ1 9 k (bs (ar c bx) k), k + 1), ⟨by dsimp only; omega, by dsimp only; omega, fun z hz => by funext j; dsimp only; rw [jx_su_ne hz, a3 z hz], fun j j0 j1 => ?_, fun j j0 j1 => ?_⟩, by dsimp only; omega, fun g K B hB => ⟨jx_inR (by omega) (by omega), fun _ => m_sideB hb (fun j j0 j1 => by rw [a3 0 (by decide)]; exact hs j j0 j1) a1 q ⟨jx_inR (by omega) (by omega), fun z => ⟨⟨a1, q⟩, m_least (by rw [e]; exact bs_R _ _) (bs_R _ _) ⟨⟨a1, q⟩, ?_⟩⟩, fun z => ⟨⟨a1, q⟩, m_most (by rw [e]; exact bs_R _ _) (bs_R _ _) ⟨⟨a1, q⟩, ?_⟩⟩⟩, fun z => absurd q z⟩⟩
      · dsimp only at j0 ⊢
        rw [jx_su_same, if_neg (by omega)]
        exact a5 j (by omega) j1
      · dsimp only at j1 ⊢
        rw [jx_su_same]
        by_cases z : j = k
        · rw [if_pos z, z]
        · rw [if_neg z]; exact a4 j j0 (by omega)
      · unfold sw at es
        rw [if_pos z] at es
        rw [e, ← es]
        exact hB
      · unfold sw at es
        rw [if_neg z] at es
        rw [e, ← es]
        exact hB
    · left
      exact ⟨μ1, ⟨a3, fun k' k0 k1 => a4 k' k0 (by omega)⟩, fun g K B hK => ⟨jx_inR (by omega) (by omega), fun z => absurd z q, fun _ => hK⟩⟩
  obtain ⟨b, hb, g⟩ := loop
  exact ⟨b, hb, fun Q hQ => g () Q hQ⟩
theorem g_wayOnB {σ μ : jx_St} {P : List (Int × Int)} {n x bx : Int} (hW : Ws σ P []) (hV : Vh σ) (hA : Ag σ μ) (hL : La σ μ) (hn : lvn σ n) (hl : 0 < σ 2 n) (hb : nb x) (hs : ∀ k, 0 ≤ k → k < 4 → μ 0 (35 + 4 * x + k) = bs bx k) (hx : vb bx) : ∃ b : jx_St, (∀ z, z ≠ 9 → b z = μ z) ∧ ∀ (Q : Int → jx_St → Prop), Q (lgF σ n bx) b → wp_M_wayOn Q μ n x 0 := by
  have s3 := hW.sh.1 n hn
  have kd : ∀ k, 0 ≤ k → k < σ 3 n → lvn σ (th σ n k) ∧ vb (σ 4 (th σ n k)) ∧ sdk σ μ (th σ n k) (σ 2 n) := fun k k0 k1 => by
    have h := hW.kid hn hl (th_kids k0 k1)
    have hv0 := hV n k hn k0 k1
    unfold hv at hv0
    rw [if_neg (by omega)] at hv0
    refine ⟨h.1, hv0, sdk_row hW hn (fun y hy h0 => ?_) k0 k1⟩
    have h2 := hW.kid hn h0 hy
    exact (hL y h2.1).1 (by have := ((hW.2.2.2.1 y h2.1).2.2.resolve_left List.not_mem_nil).1 h2.2.2.2; omega)
  have loop : ∃ b : Int × jx_St, (b.1 = lgF σ n bx ∧ ∀ z, z ≠ 9 → b.2 z = μ z) ∧ ∀ (g : Int → jx_St → Prop) (K : Int × jx_St → Prop), K b → jx_lp (fun B v => wp_M_wayOn_12 (fun r s => K (r, s)) n x 0 B v.1 v.2.1 v.2.2.1 v.2.2.2.1 v.2.2.2.2) (μ, -1, 0, 0, 0) := by
    refine go_loop (γ := Int → jx_St → Prop) (F := fun _ K B (v : jx_St × Int × Int × Int × Int) => wp_M_wayOn_12 (fun r s => K (r, s)) n x 0 B v.1 v.2.1 v.2.2.1 v.2.2.2.1 v.2.2.2.2) (fun v => (∀ z, z ≠ 9 → v.1 z = μ z) ∧ 0 ≤ v.2.2.2.2 ∧ v.2.2.2.2 ≤ σ 3 n ∧ (v.2.1, v.2.2.1, v.2.2.2.1) = lgs (fun k => σ 4 (th σ n k)) (fun k => th σ n k) bx v.2.2.2.2.toNat) (fun v => (σ 3 n - v.2.2.2.2).toNat) _ (fun v hI => ?_) ⟨fun _ _ => rfl, Int.le_refl _, s3.1, rfl⟩
    obtain ⟨μ1, bt, gr, ba, k⟩ := v
    obtain ⟨a0, a1, a2, a3⟩ := hI
    dsimp only at a0 a1 a2 a3 ⊢
    have hA1 : Ag σ μ1 := hA.of (a0 0 (by decide))
    have ek : ((k.toNat : Nat) : Int) = k := Int.toNat_of_nonneg a1
    by_cases q : k < σ 3 n
    · right
      obtain ⟨k1, k2, k3⟩ := kd k a1 q
      have ehv : hv σ (th σ n k) (σ 2 n) = σ 4 (th σ n k) := by unfold hv; rw [if_neg (by omega)]
      obtain ⟨μ2, ⟨t1, t2⟩, tg⟩ := g_takes_one hA1 (k3.of (fun _ j _ _ => by rw [a0 7 (by decide)])) (hW.R2 hn)
      have hA2 : Ag σ μ2 := hA1.of (t1 0 (by decide))
      rw [ehv] at t2
      obtain ⟨μ3, ⟨u1, u2⟩, ug⟩ := g_widens_oneB hb (fun j j0 j1 => by rw [t1 0 (by decide), a0 0 (by decide)]; exact hs j j0 j1) k2 hx t2
      have hA3 : Ag σ μ3 := hA2.of (u1 0 (by decide))
      have ar1 := ms_area t2 k2
      have ar2 := ms_area u2 (ar_vb2 (Or.inr k2) hx)
      have bd := lgs_bd (hs := fun k => σ 4 (th σ n k)) (xs := fun k => th σ n k) (b := bx) (Or.inr hx) k.toNat (fun j j0 j1 => Or.inr (kd j j0 (by omega)).2.1)
      have bxx := lgs_x (hs := fun k => σ 4 (th σ n k)) (xs := fun k => th σ n k) (b := bx) k.toNat
      rw [← a3] at bd bxx
      dsimp only at bd bxx
      have hbt : jx_R bt := by
        rcases bxx with e | ⟨j, j0, j1, e⟩
        · rw [e]; exact jx_inR (by decide) (by decide)
        · rw [e]; exact (kd j j0 (by omega)).1.1.R
      have b1 := arF_bd (Or.inr k2)
      have b2 := arF_bd (Or.inr (ar_vb2 (Or.inr k2) hx))
      have fr : ∀ z, z ≠ 9 → μ3 z = μ z := fun z hz => by rw [u1 z hz, t1 z hz, a0 z hz]
      by_cases c : bt = -1 ∨ arF (ar (σ 4 (th σ n k)) bx) - arF (σ 4 (th σ n k)) < gr ∨ (arF (ar (σ 4 (th σ n k)) bx) - arF (σ 4 (th σ n k)) = gr ∧ arF (σ 4 (th σ n k)) < ba)
      · refine ⟨(μ3, th σ n k, arF (ar (σ 4 (th σ n k)) bx) - arF (σ 4 (th σ n k)), arF (σ 4 (th σ n k)), k + 1), ⟨fr, by dsimp only; omega, by dsimp only; omega, ?_⟩, by dsimp only; omega, fun g K B hB => ?_⟩
        · dsimp only
          rw [show (k + 1).toNat = k.toNat + 1 by omega]
          simp only [lgs, ← a3, ek]
          rw [if_pos c]
        · have yes : wp_M_wayOn_100 (fun r s => K (r, s)) n x 0 B μ3 k (arF (σ 4 (th σ n k))) (arF (ar (σ 4 (th σ n k)) bx) - arF (σ 4 (th σ n k))) := m_thing hA3 hn s3.2.1 a1 q hB
          refine m_manyOf hA1 hn ⟨jx_inR (by omega) (by omega), jx_inR (by omega) (by omega), fun _ => m_thing hA1 hn s3.2.1 a1 q (m_level hA1 hn.1 (tg _ (ug _ ?_))), fun z => absurd q z⟩
          rw [ar1, ar2]
          exact ⟨hbt, fun _ => yes, fun d => ⟨jx_inR (by omega) (by omega), jx_inR (by omega) (by omega), fun _ => yes, fun d2 => ⟨jx_inR (by omega) (by omega), jx_inR (by omega) (by omega), fun d3 => ⟨jx_inR (by omega) (by omega), jx_inR (by omega) (by omega), fun _ => yes, fun d4 => absurd c (by omega)⟩, fun d3 => absurd c (by omega)⟩⟩⟩
      · refine ⟨(μ3, bt, gr, ba, k + 1), ⟨fr, by dsimp only; omega, by dsimp only; omega, ?_⟩, by dsimp only; omega, fun g K B hB => ?_⟩
        · dsimp only
          rw [show (k + 1).toNat = k.toNat + 1 by omega]
          simp only [lgs, ← a3, ek]
          rw [if_neg c]
        · refine m_manyOf hA1 hn ⟨jx_inR (by omega) (by omega), jx_inR (by omega) (by omega), fun _ => m_thing hA1 hn s3.2.1 a1 q (m_level hA1 hn.1 (tg _ (ug _ ?_))), fun z => absurd q z⟩
          rw [ar1, ar2]
          exact ⟨hbt, fun d => absurd (Or.inl d) c, fun d => ⟨jx_inR (by omega) (by omega), jx_inR (by omega) (by omega), fun d2 => absurd (Or.inr (Or.inl d2)) c, fun d2 => ⟨jx_inR (by omega) (by omega), jx_inR (by omega) (by omega), fun d3 => ⟨jx_inR (by omega) (by omega), jx_inR (by omega) (by omega), fun d4 => absurd (Or.inr (Or.inr ⟨d3, d4⟩)) c, fun _ => hB⟩, fun _ => hB⟩⟩⟩
    · left
      have e : k = σ 3 n := by omega
      subst e
      refine ⟨(bt, μ1), ⟨?_, a0⟩, fun g K B hK => m_manyOf hA1 hn ⟨jx_inR (by omega) (by omega), jx_inR (by omega) (by omega), fun z => absurd z q, fun _ => hK⟩⟩
      unfold lgF
      rw [← a3]
  obtain ⟨⟨r, b⟩, ⟨hr, hb⟩, g⟩ := loop
  dsimp only at hr hb
  subst hr
  exact ⟨b, hb, fun Q hQ => g Q (fun w => Q w.1 w.2) hQ⟩
theorem dsc_enough {σ : jx_St} {b : Int} (hS : Sh σ) (h1 : ∀ m, lvn σ m → 0 < σ 2 m → 1 ≤ σ 3 m) {i j : Nat} : ((3 : Int) ≤ (i : Int)) → ((3 : Int) ≤ (j : Int)) → ∀ n, lvn σ n → dsc σ b 0 i n = dsc σ b 0 j n := by
  have key : ∀ (L : Nat) (i j : Nat), L ≤ i → L ≤ j → ∀ n, lvn σ n → σ 2 n ≤ (L : Int) → dsc σ b 0 i n = dsc σ b 0 j n := by
    intro L
    induction L with
    | zero =>
      intro i j _ _ n hn hl
      have z : ∀ k, dsc σ b 0 k n = n := fun k => by
        cases k with
        | zero => rfl
        | succ k => simp only [dsc]; rw [if_pos (by omega)]
      rw [z, z]
    | succ L ih =>
      intro i j hi hj n hn hl
      cases i with
      | zero => omega
      | succ i =>
        cases j with
        | zero => omega
        | succ j =>
          simp only [dsc]
          by_cases c : σ 2 n ≤ 0
          · rw [if_pos c, if_pos c]
          · rw [if_neg c, if_neg c]
            obtain ⟨k, k0, k1, e⟩ := lgF_child (b := b) hS hn (by omega) (h1 n hn (by omega))
            have := (hS.2.1 n k hn k0 k1).2 (by omega)
            rw [← e] at this
            exact ih i j (by omega) (by omega) _ this.1 (by omega)
  intro hi hj n hn
  exact key 3 i j (by omega) (by omega) n hn (by have := (hS.1 n hn).2.2; omega)
theorem g_134 {σ μ : jx_St} {x bx a b c d e : Int} (hI : Inv σ) (hA : Ag σ μ) (hL : La σ μ) (hb : nb x) (hs : ∀ k, 0 ≤ k → k < 4 → μ 0 (35 + 4 * x + k) = bs bx k) (hx : vb bx) : ∃ u : jx_St × Int, ((∀ z, z ≠ 9 → u.1 z = μ z) ∧ u.2 = dsc σ bx 0 8 (σ 7 0)) ∧ ∀ (g : Int → jx_St → Prop) (K : jx_St × Int → Prop), K u → jx_lp (fun B v => wp_M_would_134 g a b c d e K x B v.1 v.2) (μ, σ 7 0) := by
  have hW := hI.1
  have hV := vh_of hW hI.2.1
  have r3 := hW.1.2.1
  have r0 := hW.1.1
  refine go_loop (γ := Int → jx_St → Prop) (F := fun g K B (v : jx_St × Int) => wp_M_would_134 g a b c d e K x B v.1 v.2) (fun v => (∀ z, z ≠ 9 → v.1 z = μ z) ∧ lvn σ v.2 ∧ σ 2 v.2 ≤ σ 2 (σ 7 0) ∧ dsc σ bx 0 (5 + (σ 2 v.2).toNat) v.2 = dsc σ bx 0 8 (σ 7 0)) (fun v => (σ 2 v.2).toNat) _ (fun v hJ => ?_) ⟨fun _ _ => rfl, r0, Int.le_refl _, ?_⟩
  · obtain ⟨ν, n⟩ := v
    obtain ⟨a1, a2, a3, a4⟩ := hJ
    dsimp only at a1 a2 a3 a4 ⊢
    have hA1 : Ag σ ν := hA.of (a1 0 (by decide))
    have e7 : ν 7 = μ 7 := a1 7 (by decide)
    have e8 : ν 8 = μ 8 := a1 8 (by decide)
    have hL1 : La σ ν := fun m hm => by
      have := hL m hm
      unfold Lai at this ⊢
      rw [e7, e8]; exact this
    by_cases q : σ 2 n ≤ 0
    · left
      refine ⟨(ν, n), ⟨a1, ?_⟩, fun g K B hK => m_level hA1 a2.1 ⟨hW.R2 a2, fun _ => hK, fun z => absurd q z⟩⟩
      rw [← a4, show 5 + (σ 2 n).toNat = 5 by omega]
      simp only [dsc]
      rw [if_pos q]
    · right
      obtain ⟨j, j0, j1, ej⟩ := lgF_child (b := bx) hW.sh a2 (by omega) (((hW.2.2.2.1 n a2).2.2.resolve_left List.not_mem_nil).2 (by omega))
      have hk := hW.kid a2 (by omega) (th_kids j0 j1)
      rw [← ej] at hk
      obtain ⟨υ, u1, ug⟩ := g_wayOnB hW hV hA1 hL1 a2 (by omega) hb (fun k k0 k1 => by rw [a1 0 (by decide)]; exact hs k k0 k1) hx
      refine ⟨(υ, lgF σ n bx), ⟨fun z hz => (u1 z hz).trans (a1 z hz), hk.1, by dsimp only; omega, ?_⟩, by dsimp only; omega, fun g K B hB => m_level hA1 a2.1 ⟨hW.R2 a2, fun z => absurd z q, fun _ => ug _ hB⟩⟩
      dsimp only
      rw [← a4, show 5 + (σ 2 n).toNat = (5 + (σ 2 (lgF σ n bx)).toNat) + 1 by omega]
      conv => rhs; unfold dsc
      rw [if_neg q]
  · dsimp only
    exact dsc_enough hW.sh (fun m hm h0 => ((hW.2.2.2.1 m hm).2.2.resolve_left List.not_mem_nil).2 h0) (by omega) (by omega) _ r0
