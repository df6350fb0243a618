/-! ===== the pure part: the reference splits ===== -/
theorem ag_clear {σ μ : jx_St} {n : Int} (hA : Ag σ μ) (hS : ∀ m, lvn σ m → 0 ≤ σ 3 m ∧ σ 3 m ≤ 5) (hn : lvn σ n) (h5 : σ 3 n = 5) : Ag (clN σ n 5) (jx_su μ 0 (199 + n) 0) := by
  have n0 := hn.1.1
  have n1 := hn.1.2
  obtain ⟨d3, dt, dr⟩ := clN_ne (σ := σ) (n := n) 5 (by omega) (by rw [h5]; decide)
  obtain ⟨d2, d3n⟩ := clN_23 (σ := σ) (n := n) 5
  have fin : ∀ j, jx_su μ 0 (199 + n) 0 0 j = if j = 199 + n then 0 else μ 0 j := fun j => jx_su_same
  have lv' : ∀ m, lvn (clN σ n 5) m ↔ lvn σ m := fun m => by unfold lvn; rw [d2]
  obtain ⟨c0, c1, c2, c3, c4, c5, c6, c7⟩ := hA
  refine ⟨?_, fun m m0 m1 => ?_, fun m hm => ?_, fun m k hm k0 k1 => ?_, fun c hc => ?_, fun c k hc hne k0 k1 => ?_, ?_, ?_⟩
  · rw [fin, if_neg (by omega), c0, dr 7 _ (by decide) (by decide) (by decide) (by decide)]
  · rw [fin, if_neg (by omega), c1 m m0 m1, d2]
  · have hm' := (lv' m).mp hm
    have := hm'.1.1
    rw [fin]
    by_cases z : m = n
    · rw [if_pos (by omega), z, d3n, h5]; rfl
    · rw [if_neg (by omega), d3 m z, c2 m hm']
  · have hm' := (lv' m).mp hm
    have := hm'.1.1
    have z : m ≠ n := fun z => by rw [z, d3n, h5] at k1; have : ((5 : Nat) : Int) = 5 := rfl; omega
    rw [d3 m z] at k1
    have := hS m hm'
    rw [fin, if_neg (by omega), dt m k z k0 (by omega)]
    exact c3 m k hm' k0 k1
  · have := hc.1
    have := hc.2
    rw [fin, if_neg (by omega), c4 c hc, dr 0 _ (by decide) (by decide) (by decide) (by decide)]
  · have := hc.1
    have := hc.2
    rw [dr 0 _ (by decide) (by decide) (by decide) (by decide)] at hne ⊢
    rw [fin, if_neg (by omega), c5 c k hc hne k0 k1]
  · rw [fin, if_neg (by omega), c6, dr 8 _ (by decide) (by decide) (by decide) (by decide)]
  · rw [fin, if_neg (by omega), c7, dr 9 _ (by decide) (by decide) (by decide) (by decide)]
theorem g_236 {σ τ μ : jx_St} {P : List (Int × Int)} {n f cut : Int} {c : Int → Int} (hf : n ≠ f) (hn : lvn σ n) (hfn : nd f) (hc : 2 ≤ cut ∧ cut ≤ 3) (hJ : spJ σ P n f cut c τ 0) (hA : Ag τ μ) (hr : ∀ j, 0 ≤ j → j < 5 → μ 22 j = c j) : ∃ b : jx_St, ((∀ z, z ≠ 0 → b z = μ z) ∧ b 0 3 = μ 0 3 ∧ ∃ τ', spJ σ P n f cut c τ' 5 ∧ Ag τ' b) ∧ ∀ (g : Int → jx_St → Prop) (K : jx_St → Prop), K b → jx_lp (fun B v => wp_M_splits_236 g n K cut f B v.1 v.2) (μ, 0) := by
  refine go_loop (γ := Int → jx_St → Prop) (F := fun g K B (v : jx_St × Int) => wp_M_splits_236 g n K cut f B v.1 v.2) (fun v => 0 ≤ v.2 ∧ v.2 ≤ 5 ∧ (∀ z, z ≠ 0 → v.1 z = μ z) ∧ v.1 0 3 = μ 0 3 ∧ ∃ τ', spJ σ P n f cut c τ' v.2 ∧ Ag τ' v.1) (fun v => (5 - v.2).toNat) _ (fun v hI => ?_) ⟨Int.le_refl _, by show (0 : Int) ≤ 5; decide, fun _ _ => rfl, rfl, τ, hJ, hA⟩
  obtain ⟨μ1, k⟩ := v
  obtain ⟨a1, a2, a3, a5, τ1, j1, a4⟩ := hI
  dsimp only at a1 a2 a3 a4 a5 j1 ⊢
  by_cases q : k < 5
  · right
    have e22 : μ1 22 k = c k := by rw [a3 22 (by decide)]; exact hr k a1 q
    have step : ∀ part, part = (if k < cut then n else f) → ∃ b : jx_St, ((∀ z, z ≠ 0 → b z = μ1 z) ∧ (∃ τ', spJ σ P n f cut c τ' (k + 1) ∧ Ag τ' b) ∧ b 0 3 = μ1 0 3) ∧ ∀ (g : Int → jx_St → Prop) (B : jx_St × Int → Prop) (K : jx_St → Prop), B (b, k + 1) → wp_M_splits_254 g n B K μ1 cut f k part := by
      intro part hp
      obtain ⟨b1, b2, b3, b4, b5, b6⟩ := spJ_step hf hn hfn hc a1 q j1 part hp
      obtain ⟨b, ⟨p1, p2, p3⟩, pg⟩ := g_puts (x := c k) (p := τ1 3 part) a4 (fun m hm => ⟨(j1.1.sh.1 m hm).1, (j1.1.sh.1 m hm).2.1⟩) b1 b4 ⟨b3, Int.le_refl _⟩
      refine ⟨b, ⟨p1, ⟨_, b6, p2⟩, p3⟩, fun g B K hB => m_manyOf a4 b1 ⟨⟨a1, q⟩, ?_⟩⟩
      rw [e22]
      exact pg _ hB
    by_cases z : k < cut
    · obtain ⟨b, ⟨p1, p2, p3⟩, pg⟩ := step n (by rw [if_pos z])
      exact ⟨(b, k + 1), ⟨by dsimp only; omega, by dsimp only; omega, fun y hy => by dsimp only; rw [p1 y hy, a3 y hy], by dsimp only; rw [p3, a5], p2⟩, by dsimp only; omega, fun g K B hB => ⟨jx_inR (by omega) (by omega), fun _ => ⟨jx_inR (by omega) (by omega), jx_inR (by omega) (by omega), fun _ => pg g B K hB, fun y => absurd z y⟩, fun y => absurd q y⟩⟩
    · obtain ⟨b, ⟨p1, p2, p3⟩, pg⟩ := step f (by rw [if_neg z])
      exact ⟨(b, k + 1), ⟨by dsimp only; omega, by dsimp only; omega, fun y hy => by dsimp only; rw [p1 y hy, a3 y hy], by dsimp only; rw [p3, a5], p2⟩, by dsimp only; omega, fun g K B hB => ⟨jx_inR (by omega) (by omega), fun _ => ⟨jx_inR (by omega) (by omega), jx_inR (by omega) (by omega), fun y => absurd y z, fun _ => pg g B K hB⟩, fun y => absurd q y⟩⟩
  · left
    have e : k = 5 := by omega
    subst e
    exact ⟨μ1, ⟨a3, a5, τ1, j1, a4⟩, fun g K B hK => ⟨jx_inR (by decide) (by decide), fun z => absurd z q, fun _ => hK⟩⟩
theorem ag_9 {σ μ : jx_St} (hA : Ag σ μ) : Ag (jx_su σ 9 0 (σ 9 0 + 1)) (jx_su μ 0 2 (μ 0 2 + 1)) := by
  have en : ∀ q i, q ≠ 9 → jx_su σ 9 0 (σ 9 0 + 1) q i = σ q i := fun q i h => jx_su_ne h
  have fin : ∀ j, jx_su μ 0 2 (μ 0 2 + 1) 0 j = if j = 2 then μ 0 2 + 1 else μ 0 j := fun j => jx_su_same
  have lv' : ∀ m, lvn (jx_su σ 9 0 (σ 9 0 + 1)) m ↔ lvn σ m := fun m => by unfold lvn; rw [en 2 _ (by decide)]
  obtain ⟨c0, c1, c2, c3, c4, c5, c6, c7⟩ := hA
  refine ⟨?_, fun m m0 m1 => ?_, fun m hm => ?_, fun m k hm k0 k1 => ?_, fun c hc => ?_, fun c k hc hne k0 k1 => ?_, ?_, ?_⟩
  · rw [fin, if_neg (by omega), c0, en 7 _ (by decide)]
  · rw [fin, if_neg (by omega), c1 m m0 m1, en 2 _ (by decide)]
  · have := hm.1.1
    rw [fin, if_neg (by omega), c2 m ((lv' m).mp hm), en 3 _ (by decide)]
  · have := hm.1.1
    rw [en 3 _ (by decide)] at k1
    rw [fin, if_neg (by omega), c3 m k ((lv' m).mp hm) k0 k1]
    exact (en 6 _ (by decide)).symm
  · have := hc.1
    rw [fin, if_neg (by omega), c4 c hc, en 0 _ (by decide)]
  · have := hc.1
    rw [en 0 _ (by decide)] at hne ⊢
    rw [fin, if_neg (by omega), c5 c k hc hne k0 k1]
  · rw [fin, if_neg (by omega), c6, en 8 _ (by decide)]
  · rw [fin, if_pos rfl, c7, jx_su_eq]
theorem g_splits {σ μ : jx_St} {P : List (Int × Int)} {n f : Int} (hW : Ws σ P []) (hH : Hs σ []) (hA : Ag σ μ) (hn : lvn σ n) (h5 : σ 3 n = 5) (hf : frs σ f) : ∃ b : jx_St, ((∀ z, z ≠ 0 → z ≠ 7 → z ≠ 8 → z ≠ 9 → z ≠ 10 → z ≠ 21 → z ≠ 22 → b z = μ z) ∧ b 0 3 = μ 0 3 ∧ ∃ τ', spJ σ P n f (scu σ n) (sth σ n) τ' 5 ∧ Ag (jx_su τ' 9 0 (τ' 9 0 + 1)) b) ∧ ∀ (Q : Int → jx_St → Prop), Q f b → wp_M_splits Q μ n := by
  have n0 := hn.1.1
  have n1 := hn.1.2
  have l0 := hn.2
  have hV := vh_of hW hH
  have hS5 : ∀ m, lvn σ m → 0 ≤ σ 3 m ∧ σ 3 m ≤ 5 := fun m hm => ⟨(hW.sh.1 m hm).1, (hW.sh.1 m hm).2.1⟩
  have f0 := hf.1.1
  have f1 := hf.1.2
  have nf : n ≠ f := fun e => by rw [e, hf.2.1] at l0; omega
  have hh : ∀ k, 0 ≤ k → k < 5 → vbo (hv σ (th σ n k) (σ 2 n)) := fun k a b => Or.inr (hV n k hn a (by omega))
  obtain ⟨s1, s2, s3, s4⟩ := swy_bd hh
  obtain ⟨μ1, ⟨a1, a2⟩, ag⟩ := g_lay hW hH hA
  have hA1 : Ag σ μ1 := hA.of (a1 0 (by decide) (by decide))
  obtain ⟨⟨μ2, best⟩, ⟨b1, b2, b3⟩, bg⟩ := g_ways hW hV hA1 a2 hn h5
  dsimp only at b1 b2 b3
  subst b2
  have hA2 : Ag σ μ2 := hA1.of (b1 0 (by decide) (by decide) (by decide) (by decide))
  have hA3 := ag_new (l := σ 2 n) hA2 hS5 hf.1 hf.2.1 (hW.2.2.1 f hf.1 hf.2.1).1
  have e3 : ∀ m, jx_su σ 2 f (σ 2 n) 3 m = σ 3 m := fun m => jx_su_ne (by decide)
  have hna : lvn (jx_su σ 2 f (σ 2 n)) n := ⟨hn.1, by rw [jx_su_same, if_neg nf]; exact l0⟩
  have hA4 := ag_clear hA3 (fun m hm => by
    rw [e3]
    by_cases z : m = f
    · rw [z, (hW.2.2.1 f hf.1 hf.2.1).1]; exact ⟨by decide, by decide⟩
    · refine hS5 m ⟨hm.1, ?_⟩
      have := hm.2
      rw [jx_su_same, if_neg z] at this
      exact this) hna (by rw [e3]; exact h5)
  have hJ := spJ_start (cut := scu σ n) (ax := swy σ n / 2) hW hH hn h5 hf.1 hf.2.1 s3
  obtain ⟨μ5, ⟨c1, c2, τ', c3, c4⟩, cg⟩ := g_236 (c := sth σ n) nf hn hf.1 ⟨s3, s4⟩ hJ hA4 (fun j j0 j1 => by rw [jx_su_ne (by decide), jx_su_ne (by decide), jx_su_ne (by decide)]; exact b3 j j0 j1)
  refine ⟨jx_su μ5 0 2 (μ5 0 2 + 1), ⟨fun z z0 z7 z8 z9 z10 z21 z22 => ?_, ?_, τ', c3, ag_9 c4⟩, fun Q hQ => ?_⟩
  · funext j
    rw [jx_su_ne z0, c1 z z0, jx_su_ne z0, jx_su_ne z0, jx_su_ne z0, b1 z z9 z10 z21 z22, a1 z z7 z8]
  · rw [jx_su_same, if_neg (by decide), c2, jx_su_same, if_neg (by omega), jx_su_same, if_neg (by omega), jx_su_same, if_neg (by omega), b1 0 (by decide) (by decide) (by decide) (by decide), a1 0 (by decide) (by decide)]
  · refine m_level hA hn.1 (ag _ (bg Q (fun w21 => wp_M_splits_215 Q n w21.1 (σ 2 n) w21.2) ?_))
    exact m_newNode hW hA2 hf ⟨⟨by omega, by show 199 + n < 439; omega⟩, cg Q (fun w236 => wp_M_splits_281 Q n w236 f) hQ⟩
