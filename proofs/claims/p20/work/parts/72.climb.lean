/-! ===== the pure part: both sides climb, a split below the root ===== -/
def Fo (σ : jx_St) (n : Int) : Prop := ∀ m, lvn σ m → m ≠ n → σ 3 m ≤ 4
def Al (σ : jx_St) : Prop := ∀ m, lvn σ m → σ 3 m ≤ 4
/-- a root that is no leaf has two things -/
def R2 (σ : jx_St) : Prop := 0 < σ 2 (σ 7 0) → 2 ≤ σ 3 (σ 7 0)
/-- what an insertion leaves as it was -/
def Kp (σ τ : jx_St) : Prop := τ 0 = σ 0 ∧ τ 10 = σ 10 ∧ σ 2 (σ 7 0) ≤ τ 2 (τ 7 0) ∧ (R2 σ → R2 τ)
theorem Kp.rfl' (σ : jx_St) : Kp σ σ := ⟨rfl, rfl, Int.le_refl _, fun h => h⟩
theorem Kp.trans' {σ τ υ : jx_St} (h : Kp σ τ) (g : Kp τ υ) : Kp σ υ := ⟨g.1.trans h.1, g.2.1.trans h.2.1, Int.le_trans h.2.2.1 g.2.2.1, fun z => g.2.2.2 (h.2.2.2 z)⟩
theorem climb_A {Q : Int → jx_St → jx_St → Prop} {ρ σ μ : jx_St} {P : List (Int × Int)} {p : Int → Int} {d n : Int} (hW : Ws σ P []) (hH : Hs σ []) (hA : Ag σ μ) (hp : Pth σ p d n) (hd : 0 < d) (h5 : σ 3 n = 5) (hF : Fo σ n) (hm : ∀ i, 0 ≤ i → i < d → μ 23 i = p i)
    (h : ∀ ρ' τ μ', (∀ k, k ≠ 10 → k ≠ 11 → ρ' k = ρ k) → Ws τ P [] → Hs τ [] → Ag τ μ' → Pth τ p (d - 1) (p (d - 1)) → Fo τ (p (d - 1)) → (Kp σ τ ∧ τ 8 0 = σ 8 0) → (∀ z, z ≠ 0 → z ≠ 7 → z ≠ 8 → z ≠ 9 → z ≠ 10 → z ≠ 21 → z ≠ 22 → μ' z = μ z) → μ' 0 3 = μ 0 3 → (∀ (Qm : jx_St → Prop) (x l l5 : Int) (B : jx_St × Int × Int × Int → Prop), B (μ', d - 1, p (d - 1), l5) → wp_M_comes_118 Qm x l B μ d n l5) → Q (p (d - 1)) ρ' τ) : wp_C_split Q ρ σ n := by
  have hn := hp.lv
  obtain ⟨u1, u2, u3, u4, u5, u6⟩ := hp.up hW hd
  have d3 : d ≤ 3 := by
    have := (hp.2.2.2.1 d hp.1 (Int.le_refl _)).2
    have h1 := (hp.2.2.2.1 d hp.1 (Int.le_refl _)).1.2
    have := hW.1.2.1
    omega
  refine p_split hW hH hn h5 (fun _ => ?_) (fun e => absurd e u4)
  obtain ⟨k0, k00, k01, hk⟩ := mem_kids.mp u3
  have an : p (d - 1) ≠ n := fun e => by rw [e] at u2; omega
  refine ⟨p (d - 1), k0, u1, u2, hF _ u1 an, k00, k01, hk, fun f τ ρ' ff hr hs => ?_⟩
  obtain ⟨μb, ⟨b1, b2, τ', b3, b4⟩, bg⟩ := g_splits hW hH hA hn h5 ff
  have hh : ∀ k, 0 ≤ k → k < 5 → vbo (hv σ (th σ n k) (σ 2 n)) := fun k a b => Sh_hv hW.sh (fun m hm => hH.1 m hm.1) hn a (by omega)
  obtain ⟨s1, s2, s3, s4⟩ := swy_bd hh
  obtain ⟨μc, ⟨c1, c2, c3⟩, cg⟩ := g_aboveA hn ff.1 ff.2.1 ⟨s3, s4⟩ u1 u2 (hF _ u1 an) k00 k01 hk (fun k a b e => by
    have := nodup_th (hW.2.2.2.2.2.1 _ u1) a (by omega) k00 k01 (e.trans hk.symm)
    omega) b3 b4 hs
  obtain ⟨sW, sH, t2, t3, tn, tf, ta, tt, t9, tr⟩ := hs
  have l0 := hn.2
  have live_f : ∀ m, lvn σ m → m ≠ f := fun m hm e => by have := hm.2; rw [e, ff.2.1] at this; omega
  have r7 : τ 7 0 = σ 7 0 := tr 7 0 (by decide) (by decide) (by decide) (by decide) (by decide) (by decide) (by decide)
  have l2 : ∀ m, lvn σ m → τ 2 m = σ 2 m := fun m hm => by rw [t2, if_neg (live_f m hm)]
  have b23 : ∀ i, 0 ≤ i → i < d → μb 23 i = p i := fun i i0 i1 => by rw [b1 23 (by decide) (by decide) (by decide) (by decide) (by decide) (by decide) (by decide)]; exact hm i i0 i1
  have hKp : Kp σ τ := by
    refine ⟨by funext i; exact tr 0 i (by decide) (by decide) (by decide) (by decide) (by decide) (by decide) (by decide), by funext i; exact tr 10 i (by decide) (by decide) (by decide) (by decide) (by decide) (by decide) (by decide), by rw [r7, l2 _ hW.1.1]; exact Int.le_refl _, fun hR => ?_⟩
    unfold R2 at hR ⊢
    rw [r7, l2 _ hW.1.1, t3, if_neg (fun e => u4 e.symm), if_neg (live_f _ hW.1.1)]
    intro z
    have h2 := hR z
    by_cases e : σ 7 0 = p (d - 1)
    · rw [if_pos e, ← e]; omega
    · rw [if_neg e]; exact h2
  refine h ρ' τ μc hr sW sH c2 ⟨by omega, by rw [r7]; exact hp.2.1, rfl, fun i i0 i1 => ?_, fun i i0 i1 => ?_⟩ (fun m hm hne => ?_) ⟨hKp, tr 8 0 (by decide) (by decide) (by decide) (by decide) (by decide) (by decide) (by decide)⟩ (fun z z0 z7 z8 z9 z10 z21 z22 => by rw [c1 z z0, b1 z z0 z7 z8 z9 z10 z21 z22]) (by rw [c3, b2]) (fun Qm x l l5 B hB => ?_)
  · obtain ⟨e1, e2⟩ := hp.2.2.2.1 i i0 (by omega)
    rw [r7, l2 _ hW.1.1, l2 _ e1]
    exact ⟨⟨e1.1, by rw [l2 _ e1]; exact e1.2⟩, e2⟩
  · obtain ⟨e1, e2⟩ := hp.2.2.2.1 i i0 (by omega)
    have e3 := (hp.2.2.2.1 (d - 1) (by omega) (by omega)).2
    have e4 := (hp.2.2.2.1 d hp.1 (Int.le_refl _)).2
    rw [hp.2.2.1] at e4
    have x1 : p i ≠ n := fun e => by rw [e] at e2; omega
    have x2 : p i ≠ p (d - 1) := fun e => by rw [e] at e2; omega
    have x3 := live_f _ e1
    have hs3 := (hW.sh.1 _ e1).2.1
    rw [kids_same (σ := σ) (by rw [t3, if_neg x1, if_neg x3, if_neg x2]) (fun k k0 k1 => tt _ k x1 x3 x2 k0 (by omega))]
    exact hp.2.2.2.2 i i0 (by omega)
  · rw [t3]
    by_cases y1 : m = n
    · rw [if_pos y1]; omega
    · rw [if_neg y1]
      by_cases y2 : m = f
      · rw [if_pos y2]; omega
      · rw [if_neg y2, if_neg hne]
        refine hF m ⟨hm.1, ?_⟩ y1
        have := hm.2
        rw [t2, if_neg y2] at this
        exact this
  · have e7 : μb 0 0 = σ 7 0 := by
      rw [b4.1, jx_su_ne (by decide)]
      exact b3.2.2.2.2.2.2.2.2.2 7 0 (by decide) (by decide) (by decide) (by decide) (by decide) (by decide)
    refine bg _ ⟨hn.1.R, by rw [e7]; exact hW.1.1.1.R, fun z => absurd (by rw [← e7]; exact z) u4, fun _ => ⟨⟨by omega, by show d + -1 < 40; omega⟩, ?_⟩⟩
    have ed : d + -1 = d - 1 := by omega
    rw [ed, b23 (d - 1) (by omega) (by omega)]
    exact cg _ hB
