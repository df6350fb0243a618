/-- the first number that is free -/
def frN (σ : jx_St) (t : Int) : Prop := (0 ≤ t ∧ t ≤ 31) ∧ (∀ b, 0 ≤ b → b < t → σ 0 b ≠ -1) ∧ (t < 31 → σ 0 t = -1)
theorem p_freeNumber {Q : Int → Prop} {σ : jx_St} (hI : Inv σ) (h : ∀ t, frN σ t → Q (if t < 31 then t else -1)) : wp_T_freeNumber Q σ := by
  refine jx_loop (fun v => 0 ≤ v ∧ v ≤ 31 ∧ ∀ b, 0 ≤ b → b < v → σ 0 b ≠ -1) (fun v => (31 - v).toNat) (fun B v hJ hB => ?_) ⟨Int.le_refl _, by decide, fun b b0 b1 => by omega⟩
  obtain ⟨a1, a2, a3⟩ := hJ
  refine ⟨jx_inR (by omega) (by omega), fun q => ?_, fun q => ?_⟩
  · by_cases c : σ 0 v = -1
    · have := h v ⟨⟨a1, a2⟩, a3, fun _ => c⟩
      rw [if_pos q] at this
      exact p_has_f hI ⟨a1, q⟩ c (c0 this)
    · refine p_has_t hI ⟨a1, q⟩ c (c1 (hB _ ⟨by omega, by omega, fun b b0 b1 => ?_⟩ (by omega)))
      by_cases e : b = v
      · rw [e]; exact c
      · exact a3 b b0 (by omega)
  · have := h v ⟨⟨a1, a2⟩, a3, fun z => absurd z q⟩
    rw [if_neg q] at this
    exact this
theorem bs_bo_w {a b c d : Int} (hw : Wn a b c d) : bs (bo a b c d) 0 = a ∧ bs (bo a b c d) 1 = b ∧ bs (bo a b c d) 2 = c ∧ bs (bo a b c d) 3 = d := by
  obtain ⟨h1, h2, h3, h4, h5, h6⟩ := hw
  obtain ⟨e0, e1, e2, e3, _⟩ := bs_bo (a := a) (b := b) (c := c) (d := d) ⟨by omega, by omega⟩ ⟨by omega, by omega⟩ ⟨by omega, by omega⟩ ⟨by omega, by omega⟩
  exact ⟨e0, e1, e2, e3⟩
