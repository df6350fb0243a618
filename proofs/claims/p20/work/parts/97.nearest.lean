def rk (σ : jx_St) (x y b : Int) : Int := if σ 0 b = -1 then -1 else diF (σ 0 b) x y * 31 + b
def ahN (σ : jx_St) (x y r : Int) : Nat → Int
  | 0 => 0
  | k + 1 => ahN σ x y r k + if rk σ x y (k : Int) ≠ -1 ∧ rk σ x y (k : Int) < r then 1 else 0
theorem ahN_succ {σ : jx_St} {x y r i : Int} (h : 0 ≤ i) : ahN σ x y r (i + 1).toNat = ahN σ x y r i.toNat + if rk σ x y i ≠ -1 ∧ rk σ x y i < r then 1 else 0 := by
  rw [show (i + 1).toNat = i.toNat + 1 by omega]
  simp only [ahN]
  rw [toNat_cast h]
theorem ahN_bd (σ : jx_St) (x y r : Int) (k : Nat) : 0 ≤ ahN σ x y r k ∧ ahN σ x y r k ≤ (k : Int) := by
  induction k with
  | zero => exact ⟨Int.le_refl _, Int.le_refl _⟩
  | succ k ih =>
    simp only [ahN]
    split <;> omega
theorem ahN_lt {σ : jx_St} {x y r s : Int} (hrs : r ≤ s) : ∀ k : Nat, ahN σ x y r k ≤ ahN σ x y s k ∧ ((∃ b : Int, 0 ≤ b ∧ b < (k : Int) ∧ rk σ x y b ≠ -1 ∧ rk σ x y b = r ∧ r < s) → ahN σ x y r k < ahN σ x y s k) := by
  intro k
  induction k with
  | zero => exact ⟨Int.le_refl _, fun ⟨b, b0, b1, _⟩ => by omega⟩
  | succ k ih =>
    obtain ⟨i1, i2⟩ := ih
    simp only [ahN]
    refine ⟨?_, fun ⟨b, b0, b1, b2, b3, b4⟩ => ?_⟩
    · by_cases c : rk σ x y (k : Int) ≠ -1 ∧ rk σ x y (k : Int) < r
      · rw [if_pos c, if_pos ⟨c.1, by omega⟩]; omega
      · rw [if_neg c]; split <;> omega
    · by_cases e : b = (k : Int)
      · rw [e] at b2 b3
        have n1 : ¬ (rk σ x y (k : Int) ≠ -1 ∧ rk σ x y (k : Int) < r) := by omega
        have n2 : rk σ x y (k : Int) ≠ -1 ∧ rk σ x y (k : Int) < s := by omega
        rw [if_neg n1, if_pos n2]; omega
      · have := i2 ⟨b, b0, by omega, b2, b3, b4⟩
        by_cases c : rk σ x y (k : Int) ≠ -1 ∧ rk σ x y (k : Int) < r
        · rw [if_pos c, if_pos ⟨c.1, by omega⟩]; omega
        · rw [if_neg c]; split <;> omega
theorem rk_bd {σ : jx_St} {x y b : Int} (hb : nb b) (hx : 0 ≤ x ∧ x ≤ 99) (hy : 0 ≤ y ∧ y ≤ 99) : (σ 0 b = -1 → rk σ x y b = -1) ∧ (σ 0 b ≠ -1 → rk σ x y b = diF (σ 0 b) x y * 31 + b ∧ 0 ≤ rk σ x y b) ∧ jx_R (rk σ x y b) := by
  have db := diF_bd (σ 0 b) x y hx hy
  have b0 := hb.1
  have b1 := hb.2
  unfold rk
  refine ⟨fun h => by rw [if_pos h], fun h => by rw [if_neg h]; omega, ?_⟩
  split
  · exact R_lit (-1) (by decide)
  · exact jx_inR (by omega) (by omega)
/-- of two boxes one has more ahead of it -/
theorem rk_one {σ : jx_St} {x y b c : Int} (hx : 0 ≤ x ∧ x ≤ 99) (hy : 0 ≤ y ∧ y ≤ 99) (hb : nb b) (hc : nb c) (h1 : σ 0 b ≠ -1) (h2 : σ 0 c ≠ -1) (e : ahN σ x y (rk σ x y b) 31 = ahN σ x y (rk σ x y c) 31) : b = c := by
  obtain ⟨k1, k2⟩ := (rk_bd hb hx hy).2.1 h1
  obtain ⟨k3, k4⟩ := (rk_bd hc hx hy).2.1 h2
  have b0 := hb.1
  have b1 := hb.2
  have c0 := hc.1
  have c1 := hc.2
  by_cases l : rk σ x y b < rk σ x y c
  · have := (ahN_lt (σ := σ) (x := x) (y := y) (r := rk σ x y b) (s := rk σ x y c) (by omega) 31).2 ⟨b, b0, b1, by omega, rfl, l⟩
    omega
  · by_cases l2 : rk σ x y c < rk σ x y b
    · have := (ahN_lt (σ := σ) (x := x) (y := y) (r := rk σ x y c) (s := rk σ x y b) (by omega) 31).2 ⟨c, c0, c1, by omega, rfl, l2⟩
      omega
    · rw [k1, k3] at l l2
      omega
theorem p_ranksAhead {Q : Int → Prop} {σ β : jx_St} {x y r : Int} (hx : 0 ≤ x ∧ x ≤ 99) (hy : 0 ≤ y ∧ y ≤ 99) (rR : jx_R r) (h8 : ∀ i, nb i → β 8 i = rk σ x y i) (h : Q (ahN σ x y r 31)) : wp_B_ranksAhead Q β r := by
  refine jx_loop (fun v => 0 ≤ v.2 ∧ v.2 ≤ 31 ∧ v.1 = ahN σ x y r v.2.toNat) (fun v => (31 - v.2).toNat) (fun B v hJ hB => ?_) ⟨Int.le_refl _, by dsimp only; omega, rfl⟩
  obtain ⟨a, i⟩ := v
  obtain ⟨a1, a2, a3⟩ := hJ
  dsimp only at a1 a2 a3 ⊢
  refine ⟨jx_inR (by omega) (by omega), R_lit 31 (by decide), fun q => ?_, fun q => ?_⟩
  · have hb : nb i := ⟨a1, q⟩
    have kR := (rk_bd (σ := σ) hb hx hy).2.2
    rw [h8 i hb]
    refine ⟨⟨a1, q⟩, kR, fun e => hB _ ⟨by dsimp only; omega, by dsimp only; omega, ?_⟩ (by dsimp only; omega), fun e => ⟨kR, rR, fun l => hB _ ⟨by dsimp only; omega, by dsimp only; omega, ?_⟩ (by dsimp only; omega), fun l => hB _ ⟨by dsimp only; omega, by dsimp only; omega, ?_⟩ (by dsimp only; omega)⟩⟩
    · dsimp only; rw [ahN_succ a1, a3, if_neg (fun z => z.1 e)]; omega
    · dsimp only; rw [ahN_succ a1, a3, if_pos ⟨e, l⟩]
    · dsimp only; rw [ahN_succ a1, a3, if_neg (fun z => l z.2)]; omega
  · rw [a3, show i = 31 by omega]; exact h
theorem p_boxOfRank {Q : Int → jx_St → Prop} {σ β : jx_St} {x y n : Int} (hI : Inv σ) (hx : 0 ≤ x ∧ x ≤ 99) (hy : 0 ≤ y ∧ y ≤ 99) (nR : jx_R n) (h : ∀ β' t, (0 ≤ t ∧ t ≤ 31) → (∀ b, nb b → ((σ 0 b ≠ -1 ∧ ahN σ x y (rk σ x y b) 31 = n) ↔ b = t)) → Q (if t < 31 then t else -1) β') : wp_B_boxOfRank Q β σ x y n := by
  refine jx_loop (fun v => 0 ≤ v.2 ∧ v.2 ≤ 31 ∧ ∀ i, 0 ≤ i → i < v.2 → v.1 8 i = rk σ x y i) (fun v => (31 - v.2).toNat) (fun B v hJ hB => ?_) ⟨Int.le_refl _, by dsimp only; omega, fun i i0 i1 => by dsimp only at i1; omega⟩
  obtain ⟨γ, i⟩ := v
  obtain ⟨a1, a2, a3⟩ := hJ
  dsimp only at a1 a2 a3 ⊢
  have iR : jx_R i := jx_inR (by omega) (by omega)
  refine ⟨iR, fun q => ?_, fun q => ?_⟩
  · have hb : nb i := ⟨a1, q⟩
    have nxt : ∀ t, t = rk σ x y i → jx_R i ∧ B (jx_se 31 γ 8 i t, i + 1) := fun t ht => ⟨iR, hB _ ⟨by dsimp only; omega, by dsimp only; omega, fun j j0 j1 => by
      dsimp only at j1 ⊢
      rw [jx_se_in a1 q, jx_su_same]
      by_cases e : j = i
      · rw [if_pos e, e, ht]
      · rw [if_neg e]; exact a3 j j0 (by omega)⟩ (by dsimp only; omega)⟩
    by_cases c : σ 0 i = -1
    · exact p_has_f hI hb c (c0 (nxt _ ((rk_bd hb hx hy).1 c).symm))
    · refine p_has_t hI hb c (c1 (p_hull (R_lit 0 (by decide)) (by unfold tv; rw [if_pos rfl]; exact hb) ?_))
      rw [hv_0]
      exact p_distance hx hy (nxt _ ((rk_bd hb hx hy).2.1 c).1.symm)
  · have h8 : ∀ i, nb i → γ 8 i = rk σ x y i := fun j hj => a3 j hj.1 (by have := hj.2; omega)
    refine jx_loop (fun i => 0 ≤ i ∧ i ≤ 31 ∧ ∀ b, 0 ≤ b → b < i → ¬ (σ 0 b ≠ -1 ∧ ahN σ x y (rk σ x y b) 31 = n)) (fun i => (31 - i).toNat) (fun B' j hK hB' => ?_) ⟨Int.le_refl _, by decide, fun b b0 b1 => by omega⟩
    obtain ⟨e1, e2, e3⟩ := hK
    refine ⟨jx_inR (by omega) (by omega), fun y1 => ?_, fun y1 => ?_⟩
    · have hb : nb j := ⟨e1, y1⟩
      have kk := rk_bd (σ := σ) hb hx hy
      have nxt : ¬ (σ 0 j ≠ -1 ∧ ahN σ x y (rk σ x y j) 31 = n) → B' (j + 1) := fun hn => hB' _ ⟨by omega, by omega, fun b b0 b1 => by
        by_cases e : b = j
        · rw [e]; exact hn
        · exact e3 b b0 (by omega)⟩ (by omega)
      rw [jx_at_in e1 y1, h8 j hb]
      refine ⟨jx_inR (by omega) (by omega), kk.2.2, fun z => nxt (fun w => ?_), fun z => ?_⟩
      · have := (kk.2.1 w.1).2; omega
      · have hne : σ 0 j ≠ -1 := fun w => z (kk.1 w)
        have ab := ahN_bd σ x y (rk σ x y j) 31
        refine p_ranksAhead hx hy kk.2.2 h8 ⟨jx_inR (by omega) (by omega), nR, fun w => ?_, fun w => nxt (fun u => w u.2)⟩
        have := h γ j ⟨e1, by omega⟩ (fun b hb' => ⟨fun u => rk_one hx hy hb' hb u.1 hne (u.2.trans w.symm), fun u => by rw [u]; exact ⟨hne, w⟩⟩)
        rw [if_pos y1] at this
        exact this
    · have := h γ 31 ⟨by decide, by decide⟩ (fun b hb' => ⟨fun u => absurd u (e3 b hb'.1 (by have := hb'.2; omega)), fun u => by have := hb'.2; omega⟩)
      rw [if_neg (by decide)] at this
      exact this
