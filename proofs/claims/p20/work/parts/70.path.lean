/-! ===== the pure part: the way down, on both sides ===== -/
def Pth (σ : jx_St) (p : Int → Int) (d n : Int) : Prop :=
  0 ≤ d ∧ p 0 = σ 7 0 ∧ p d = n ∧ (∀ i, 0 ≤ i → i ≤ d → lvn σ (p i) ∧ σ 2 (p i) = σ 2 (σ 7 0) - i) ∧ (∀ i, 0 ≤ i → i < d → p (i + 1) ∈ kids σ (p i))
theorem g_way {σ μ : jx_St} {P : List (Int × Int)} {x l : Int} (hW : Ws σ P []) (hV : Vh σ) (hA : Ag σ μ) (hL : La σ μ) (hs : sdk σ μ x l) (hl : 0 ≤ l ∧ l ≤ σ 2 (σ 7 0)) (hx : vb (hv σ x l)) : ∃ b : jx_St × Int × Int, ((∀ z, z ≠ 9 → z ≠ 23 → b.1 z = μ z) ∧ b.2.2 = dsc σ (hv σ x l) l 8 (σ 7 0) ∧ σ 2 b.2.2 = l ∧ ∃ p, Pth σ p b.2.1 b.2.2 ∧ ∀ i, 0 ≤ i → i < b.2.1 → b.1 23 i = p i) ∧ ∀ (g : jx_St → Prop) (K : jx_St × Int × Int → Prop), K b → jx_lp (fun B v => wp_M_comes_14 g x l K B v.1 v.2.1 v.2.2) (μ, 0, σ 7 0) := by
  have r3 := hW.1.2.1
  have r0 := hW.1.1
  have hS := hW.sh
  have lR : jx_R l := jx_inR (by omega) (by omega)
  refine go_loop (γ := jx_St → Prop) (F := fun g K B (v : jx_St × Int × Int) => wp_M_comes_14 g x l K B v.1 v.2.1 v.2.2) (fun v => (∀ z, z ≠ 9 → z ≠ 23 → v.1 z = μ z) ∧ v.2.1 ≤ 3 ∧ l ≤ σ 2 v.2.2 ∧ dsc σ (hv σ x l) l (8 - v.2.1).toNat v.2.2 = dsc σ (hv σ x l) l 8 (σ 7 0) ∧ ∃ p, Pth σ p v.2.1 v.2.2 ∧ ∀ i, 0 ≤ i → i < v.2.1 → v.1 23 i = p i) (fun v => (8 - v.2.1).toNat) _ (fun v hI => ?_) ⟨fun _ _ _ => rfl, by show (0 : Int) ≤ 3; decide, hl.2, rfl, fun _ => σ 7 0, ⟨Int.le_refl _, rfl, rfl, fun i i0 i1 => ⟨r0, by dsimp only at i1 ⊢; omega⟩, fun i i0 i1 => by exfalso; dsimp only at i1; omega⟩, fun i i0 i1 => by exfalso; dsimp only at i1; omega⟩
  obtain ⟨μ1, d, n⟩ := v
  obtain ⟨a1, a2, a3, a4, p, ⟨q0, q1, q2, q3, q4⟩, a5⟩ := hI
  dsimp only at a1 a2 a3 a4 a5 q0 q1 q2 q3 q4 ⊢
  have hA1 : Ag σ μ1 := hA.of (a1 0 (by decide) (by decide))
  have hn : lvn σ n := by have := (q3 d q0 (Int.le_refl _)).1; rw [q2] at this; exact this
  have ln : σ 2 n = σ 2 (σ 7 0) - d := by have := (q3 d q0 (Int.le_refl _)).2; rw [q2] at this; exact this
  have ek : (8 - d).toNat = (8 - (d + 1)).toNat + 1 := by omega
  rw [ek] at a4
  simp only [dsc] at a4
  by_cases c : σ 2 n ≤ l
  · left
    rw [if_pos c] at a4
    exact ⟨(μ1, d, n), ⟨a1, a4, by dsimp only; omega, p, ⟨q0, q1, q2, q3, q4⟩, a5⟩, fun g K B hK => m_level hA1 hn.1 ⟨hW.R2 hn, lR, fun _ => hK, fun z => absurd c z⟩⟩
  · right
    rw [if_neg c] at a4
    have hl0 : 0 < σ 2 n := by omega
    obtain ⟨j, j0, j1, e⟩ := lgF_child (b := hv σ x l) hS hn hl0 ((hW.2.2.2.1 n hn).2.2.resolve_left List.not_mem_nil |>.2 hl0)
    have hk := hW.kid hn hl0 (th_kids j0 j1)
    rw [← e] at hk
    have hmem : lgF σ n (hv σ x l) ∈ kids σ n := by rw [e]; exact th_kids j0 j1
    have hA2 : Ag σ (jx_su μ1 23 d n) := hA1.of (by funext i; exact jx_su_ne (by decide))
    have l7 : ∀ i, jx_su μ1 23 d n 7 i = μ 7 i := fun i => by rw [jx_su_ne (by decide), a1 7 (by decide) (by decide)]
    have l8 : jx_su μ1 23 d n 8 = μ 8 := by funext i; rw [jx_su_ne (by decide), a1 8 (by decide) (by decide)]
    have hL2 : La σ (jx_su μ1 23 d n) := fun m hm => by
      obtain ⟨h1, h2⟩ := hL m hm
      refine ⟨fun z k k0 k1 => by rw [l7]; exact h1 z k k0 k1, ?_⟩
      rw [l8]; exact h2
    obtain ⟨μ2, w1, wg⟩ := g_wayOn hW hV hA2 hL2 hn hl0 (hs.of (μ' := jx_su μ1 23 d n) (fun _ k _ _ => l7 _)) lR hx
    refine ⟨(μ2, d + 1, lgF σ n (hv σ x l)), ⟨fun z z9 z23 => ?_, by dsimp only; omega, by dsimp only; omega, a4, fun i => if i ≤ d then p i else lgF σ n (hv σ x l), ⟨by dsimp only; omega, ?_, ?_, fun i i0 i1 => ?_, fun i i0 i1 => ?_⟩, fun i i0 i1 => ?_⟩, by dsimp only; omega, fun g K B hB => m_level hA1 hn.1 ⟨hW.R2 hn, lR, fun z => absurd z c, fun _ => ⟨⟨q0, by show d < 40; omega⟩, wg _ hB⟩⟩⟩
    · dsimp only; rw [w1 z z9]; funext i; rw [jx_su_ne z23, a1 z z9 z23]
    · dsimp only; rw [if_pos q0]; exact q1
    · dsimp only; rw [if_neg (by omega)]
    · dsimp only at i1 ⊢
      by_cases z : i ≤ d
      · rw [if_pos z]; exact q3 i i0 z
      · rw [if_neg z]; exact ⟨hk.1, by have := hk.2.1; omega⟩
    · dsimp only at i1 ⊢
      by_cases z : i + 1 ≤ d
      · rw [if_pos z, if_pos (by omega)]; exact q4 i i0 (by omega)
      · have : i = d := by omega
        rw [if_neg z, if_pos (by omega), this, q2]
        exact hmem
    · dsimp only at i1 ⊢
      rw [w1 23 (by decide), jx_su_same]
      by_cases z : i = d
      · rw [if_pos z, if_pos (by omega), z, q2]
      · rw [if_neg z, if_pos (by omega)]; exact a5 i i0 (by omega)
/-- above a node of the way, that is not the root -/
theorem Pth.up {σ : jx_St} {P : List (Int × Int)} {E : List Int} {p : Int → Int} {d n : Int} (hW : Ws σ P E) (h : Pth σ p d n) (hd : 0 < d) : lvn σ (p (d - 1)) ∧ σ 2 (p (d - 1)) = σ 2 n + 1 ∧ n ∈ kids σ (p (d - 1)) ∧ n ≠ σ 7 0 ∧ σ 5 n = p (d - 1) ∧ Pth σ p (d - 1) (p (d - 1)) := by
  obtain ⟨q0, q1, q2, q3, q4⟩ := h
  obtain ⟨a1, a2⟩ := q3 (d - 1) (by omega) (by omega)
  obtain ⟨b1, b2⟩ := q3 d q0 (Int.le_refl _)
  have k := q4 (d - 1) (by omega) (by omega)
  rw [show d - 1 + 1 = d by omega, q2] at k
  rw [q2] at b2
  have l0 : 0 < σ 2 (p (d - 1)) := by have := b1.2; rw [q2] at this; omega
  have kk := hW.kid a1 l0 k
  exact ⟨a1, by omega, k, kk.2.2.2, kk.2.2.1, ⟨by omega, q1, rfl, fun i i0 i1 => q3 i i0 (by omega), fun i i0 i1 => q4 i i0 (by omega)⟩⟩
theorem Pth.root {σ : jx_St} {p : Int → Int} {d n : Int} (h : Pth σ p d n) : n = σ 7 0 ↔ d = 0 := by
  obtain ⟨q0, q1, q2, q3, q4⟩ := h
  constructor
  · intro e
    have := (q3 d q0 (Int.le_refl _)).2
    rw [q2, e] at this
    omega
  · intro e
    rw [← q2, e, q1]
theorem Pth.lv {σ : jx_St} {p : Int → Int} {d n : Int} (h : Pth σ p d n) : lvn σ n := by
  have := (h.2.2.2.1 d h.1 (Int.le_refl _)).1
  rw [h.2.2.1] at this
  exact this
