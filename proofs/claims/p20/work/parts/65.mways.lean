/-! ===== the pure part: the reference looks for the best way to split ===== -/
theorem div_ok {w : Int} (h0 : 0 ≤ w) (h1 : w < 4) : jx_div w 2 = w / 2 ∧ jx_rem w 2 = w % 2 := by
  have : w = 0 ∨ w = 1 ∨ w = 2 ∨ w = 3 := by omega
  rcases this with q | q | q | q <;> rw [q] <;> exact ⟨by decide, by decide⟩
theorem hpF_1 {h : Int → Int} {a : Int} : hpF h a 1 = h a := by
  show ar (-1) (h (a + ((0 : Nat) : Int))) = h a
  unfold ar
  rw [if_pos rfl, show a + ((0 : Nat) : Int) = a by omega]
theorem hpF_vb {h : Int → Int} {a : Int} (k : Nat) (hk : 0 < k) (hh : ∀ j : Int, a ≤ j → j < a + (k : Int) → vb (h j)) : vb (hpF h a k) := by
  obtain ⟨m, rfl⟩ : ∃ m, k = m + 1 := ⟨k - 1, by omega⟩
  simp only [hpF]
  exact ar_vb2 (hpF_vbo m (fun j j0 j1 => Or.inr (hh j j0 (by omega)))) (hh _ (by omega) (by omega))
theorem ms_idem {μ : jx_St} {q : Nat} {c : Int} (hc : vb c) (h : Ms μ q (ar c c)) : Ms μ q c := fun k k0 k1 => by
  rw [h k k0 k1, sw_ar hc hc k0 k1]
  unfold sw
  split <;> omega
theorem g_78 {σ μ : jx_St} {n ax part : Int} (hA : Ag σ μ) (hlR : jx_R (σ 2 n)) (hp : 2 ≤ part ∧ part ≤ 3) (h21 : ∀ j, 0 ≤ j → j < 5 → μ 21 j = wS σ n ax j) (hs : ∀ j, 0 ≤ j → j < 5 → sdk σ μ (wS σ n ax j) (σ 2 n)) (hvb : ∀ j, 0 ≤ j → j < 5 → vb (wH σ n ax j)) (m9 : Ms μ 9 (wH σ n ax 0)) (m10 : Ms μ 10 (wH σ n ax part)) : ∃ b : jx_St, ((∀ z, z ≠ 9 → z ≠ 10 → b z = μ z) ∧ Ms b 9 (hpF (wH σ n ax) 0 part.toNat) ∧ Ms b 10 (hpF (wH σ n ax) part (5 - part).toNat)) ∧ ∀ (g : (Int → jx_St → Prop) × (jx_St × Int × Int × Int × Int → Prop) × (jx_St × Int → Prop) × Int × Int × Int × Int) (K : jx_St → Prop), K b → jx_lp (fun B v => wp_M_splits_78 g.1 n K (σ 2 n) g.2.2.2.1 g.2.2.2.2.1 g.2.2.2.2.2.1 g.2.2.2.2.2.2 part B v.1 v.2) (μ, 1) := by
  refine go_loop (γ := (Int → jx_St → Prop) × (jx_St × Int × Int × Int × Int → Prop) × (jx_St × Int → Prop) × Int × Int × Int × Int) (F := fun g K B (v : jx_St × Int) => wp_M_splits_78 g.1 n K (σ 2 n) g.2.2.2.1 g.2.2.2.2.1 g.2.2.2.2.2.1 g.2.2.2.2.2.2 part B v.1 v.2) (fun v => 1 ≤ v.2 ∧ v.2 ≤ 5 ∧ (∀ z, z ≠ 9 → z ≠ 10 → v.1 z = μ z) ∧ Ms v.1 9 (hpF (wH σ n ax) 0 (min v.2 part).toNat) ∧ Ms v.1 10 (hpF (wH σ n ax) part (max 1 (v.2 - part)).toNat)) (fun v => (5 - v.2).toNat) _ (fun v hI => ?_) ⟨Int.le_refl _, by show (1 : Int) ≤ 5; decide, fun _ _ _ => rfl, ?_, ?_⟩
  · obtain ⟨μ1, k⟩ := v
    obtain ⟨a1, a2, a3, a4, a5⟩ := hI
    dsimp only at a1 a2 a3 a4 a5 ⊢
    have hA1 : Ag σ μ1 := hA.of (a3 0 (by decide) (by decide))
    by_cases q : k < 5
    · right
      have e21 : μ1 21 k = wS σ n ax k := by rw [a3 21 (by decide) (by decide)]; exact h21 k (by omega) q
      have hsk : sdk σ μ1 (wS σ n ax k) (σ 2 n) := (hs k (by omega) q).of (fun _ j _ _ => by rw [a3 7 (by decide) (by decide)])
      have hvk : vb (hv σ (wS σ n ax k) (σ 2 n)) := hvb k (by omega) q
      by_cases c : k < part
      · rw [show min k part = k by omega] at a4
        obtain ⟨μ2, ⟨u1, u2⟩, ug⟩ := g_widens_one hA1 hsk hlR (hpF_vb k.toNat (by omega) (fun j j0 j1 => hvb j j0 (by omega))) hvk a4
        refine ⟨(μ2, k + 1), ⟨by dsimp only; omega, by dsimp only; omega, fun z z9 z10 => by dsimp only; rw [u1 z z9, a3 z z9 z10], ?_, ?_⟩, by dsimp only; omega, fun g K B hB => ⟨jx_inR (by omega) (by omega), fun _ => ⟨jx_inR (by omega) (by omega), jx_inR (by omega) (by omega), fun _ => ⟨⟨by omega, by show k < 5; omega⟩, by rw [e21]; exact ug _ hB⟩, fun z => absurd c z⟩, fun z => absurd q z⟩⟩
        · dsimp only
          rw [show (min (k + 1) part).toNat = k.toNat + 1 by omega]
          simp only [hpF]
          rw [show (0 : Int) + ((k.toNat : Nat) : Int) = k by omega]
          exact u2
        · dsimp only
          rw [show max 1 (k + 1 - part) = max 1 (k - part) by omega]
          unfold Ms at a5 ⊢
          rw [u1 10 (by decide)]
          exact a5
      · have hvp : vb (hpF (wH σ n ax) part (max 1 (k - part)).toNat) := hpF_vb _ (by omega) (fun j j0 j1 => hvb j (by omega) (by omega))
        obtain ⟨μ2, ⟨u1, u2⟩, ug⟩ := g_widens_two hA1 hsk hlR hvp hvk a5
        refine ⟨(μ2, k + 1), ⟨by dsimp only; omega, by dsimp only; omega, fun z z9 z10 => by dsimp only; rw [u1 z z10, a3 z z9 z10], ?_, ?_⟩, by dsimp only; omega, fun g K B hB => ⟨jx_inR (by omega) (by omega), fun _ => ⟨jx_inR (by omega) (by omega), jx_inR (by omega) (by omega), fun z => absurd z c, fun _ => ⟨⟨by omega, by show k < 5; omega⟩, by rw [e21]; exact ug _ hB⟩⟩, fun z => absurd q z⟩⟩
        · dsimp only
          rw [show min (k + 1) part = min k part by omega]
          unfold Ms at a4 ⊢
          rw [u1 9 (by decide)]
          exact a4
        · dsimp only
          by_cases z : k = part
          · rw [show (max 1 (k - part)).toNat = 1 by omega, hpF_1] at u2 hvp
            rw [show (max 1 (k + 1 - part)).toNat = 1 by omega, hpF_1]
            rw [z] at u2
            exact ms_idem hvp u2
          · rw [show (max 1 (k - part)).toNat = (k - part).toNat by omega] at u2
            rw [show (max 1 (k + 1 - part)).toNat = (k - part).toNat + 1 by omega]
            simp only [hpF]
            rw [show part + (((k - part).toNat : Nat) : Int) = k by omega]
            exact u2
    · left
      have e : k = 5 := by omega
      subst e
      rw [show min 5 part = part by omega] at a4
      rw [show max 1 (5 - part) = 5 - part by omega] at a5
      exact ⟨μ1, ⟨a3, a4, a5⟩, fun g K B hK => ⟨jx_inR (by decide) (by decide), fun z => absurd z q, fun _ => hK⟩⟩
  · dsimp only
    rw [show (min 1 part).toNat = 1 by omega, hpF_1]
    exact m9
  · dsimp only
    rw [show (max 1 (1 - part)).toNat = 1 by omega, hpF_1]
    exact m10
