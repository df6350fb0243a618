/-! ===== the pure part: Tree's methods, more ===== -/
theorem p_placeIn {Q : Int → Prop} {σ : jx_St} {n x k0 : Int} (hn : nd n) (hs : σ 3 n ≤ 5) (hx : jx_R x) (ht : ∀ k, 0 ≤ k → k < σ 3 n → jx_R (th σ n k)) (h0 : 0 ≤ k0) (h1 : k0 < σ 3 n) (he : th σ n k0 = x) (hf : ∀ k, 0 ≤ k → k < k0 → th σ n k ≠ x) (h : Q k0) : wp_T_placeIn Q σ n x := by
  refine jx_loop (fun v => 0 ≤ v ∧ v ≤ k0) (fun v => (k0 - v).toNat) (fun B v hI hB => ?_) ⟨Int.le_refl _, h0⟩
  obtain ⟨a1, a2⟩ := hI
  refine p_sizeOf hn ⟨jx_inR (by omega) (by omega), jx_inR (by omega) (by omega), fun q => ?_, fun q => absurd (by omega) q⟩
  refine p_thingAt hn (by omega) ⟨ht _ a1 q, hx, fun e => ?_, fun e => ?_⟩
  · have ev : v = k0 := by
      rcases Int.lt_or_eq_of_le a2 with z | z
      · exact absurd e (hf v a1 z)
      · exact z
    rw [ev]
    exact h
  · have : v ≠ k0 := fun z => e (by rw [z]; exact he)
    exact hB (v + 1) ⟨by omega, by omega⟩ (by omega)
theorem p_newNode {Q : Int → jx_St → Prop} {σ : jx_St} {l f : Int} (hf : nd f) (he : σ 2 f = -1) (hb : ∀ j, 0 ≤ j → j < f → σ 2 j ≠ -1 ∧ jx_R (σ 2 j)) (h : Q f (jx_su σ 2 f l)) : wp_T_newNode Q σ l := by
  have f0 := hf.1
  have f1 := hf.2
  refine jx_loop (fun v => 0 ≤ v ∧ v ≤ f) (fun v => (f - v).toNat) (fun B v hI hB => ?_) ⟨Int.le_refl _, f0⟩
  obtain ⟨a1, a2⟩ := hI
  refine ⟨jx_inR (by omega) (by omega), fun _ => p_levelOf ⟨a1, by omega⟩ ?_, fun q => absurd (by omega) q⟩
  rcases Int.lt_or_eq_of_le a2 with z | z
  · obtain ⟨b1, b2⟩ := hb v a1 z
    exact ⟨b2, fun q => absurd q b1, fun _ => hB (v + 1) ⟨by omega, by omega⟩ (by omega)⟩
  · subst z
    refine ⟨by rw [he]; exact jx_inR (by decide) (by decide), fun _ => ⟨hf.R, ?_⟩, fun q => absurd he q⟩
    rw [jx_se_in hf.1 hf.2]
    exact h
/-- what is left when a row is emptied from its end -/
def clI (σ : jx_St) (n : Int) (j : Int) (τ : jx_St) : Prop :=
  (∀ (k : Nat) (i : Int), k ≠ 6 → k ≠ 3 → k ≠ (if σ 2 n = 0 then 1 else 5) → τ k i = σ k i) ∧
  (∀ i, τ 6 i = if n * 5 + j ≤ i ∧ i < n * 5 + σ 3 n then -1 else σ 6 i) ∧
  (∀ i, τ 3 i = if i = n then j else σ 3 i) ∧
  (∀ i, (∃ q, j ≤ q ∧ q < σ 3 n ∧ th σ n q = i) → τ (if σ 2 n = 0 then 1 else 5) i = -1) ∧
  (∀ i, (∀ q, j ≤ q → q < σ 3 n → th σ n q ≠ i) → τ (if σ 2 n = 0 then 1 else 5) i = σ (if σ 2 n = 0 then 1 else 5) i)
theorem p_clearRow {Q : jx_St → Prop} {σ : jx_St} {n : Int} (hn : nd n) (hs : 0 ≤ σ 3 n ∧ σ 3 n ≤ 5) (hl : jx_R (σ 2 n)) (hx : ∀ k, 0 ≤ k → k < σ 3 n → tv (th σ n k) (σ 2 n)) (h : ∀ τ, clI σ n 0 τ → Q τ) : wp_T_clearRow Q σ n := by
  have h1 := hn.1
  have h2 := hn.2
  have hkk : (if σ 2 n = 0 then 1 else 5 : Nat) ≠ 6 ∧ (if σ 2 n = 0 then 1 else 5 : Nat) ≠ 3 ∧ (if σ 2 n = 0 then 1 else 5 : Nat) ≠ 2 := by split <;> decide
  refine p_sizeOf hn ?_
  refine jx_loop (fun v => -1 ≤ v.2 ∧ v.2 < σ 3 n ∧ clI σ n (v.2 + 1) v.1) (fun v => (v.2 + 1).toNat) (fun B v hI hB => ?_) ⟨by omega, by omega, ?_⟩
  · obtain ⟨τ, j⟩ := v
    obtain ⟨a1, a2, a3, a4, a5, a6, a7⟩ := hI
    dsimp only at a1 a2 a3 a4 a5 a6 a7 ⊢
    have e3 : τ 3 n = j + 1 := by rw [a5, if_pos rfl]
    have e2 : τ 2 n = σ 2 n := a3 2 n (by decide) (by decide) (fun e => hkk.2.2 e.symm)
    refine ⟨jx_inR (by omega) (by omega), fun q => ?_, fun q => ?_⟩
    · have ej : j = -1 := by omega
      subst ej
      exact h τ ⟨a3, a4, a5, a6, a7⟩
    · have et : th τ n j = th σ n j := by unfold th; rw [a4, if_neg (by omega)]
      refine p_remove hn (by omega) ⟨by omega, by omega⟩ (by rw [e2]; exact hl) (by rw [e2, et]; exact hx j (by omega) (by omega)) ?_
      refine hB _ ⟨by show -1 ≤ j + -1; omega, by show j + -1 < σ 3 n; omega, ?_⟩ (by show (j + -1 + 1).toNat < (j + 1).toNat; omega)
      dsimp only
      rw [show j + -1 + 1 = j by omega]
      refine ⟨fun k i k6 k3 kk => ?_, fun i => ?_, fun i => ?_, fun i hi => ?_, fun i hi => ?_⟩
      · simp only [rmF]
        rw [if_neg k6, if_neg k3, e2, if_neg kk]
        exact a3 k i k6 k3 kk
      · simp only [rmF, e3, if_true]
        rw [if_neg (by omega)]
        by_cases e : i = n * 5 + (j + 1) - 1
        · rw [if_pos e, if_pos (by omega)]
        · rw [if_neg e, a4]
          by_cases e2 : n * 5 + (j + 1) ≤ i ∧ i < n * 5 + σ 3 n
          · rw [if_pos e2, if_pos (by omega)]
          · rw [if_neg e2, if_neg (by omega)]
      · simp only [rmF, e3]
        rw [if_neg (by decide), if_pos trivial]
        by_cases e : i = n
        · rw [if_pos e, if_pos e]; omega
        · rw [if_neg e, if_neg e, a5, if_neg e]
      · simp only [rmF, e2, et]
        rw [if_neg hkk.1, if_neg hkk.2.1, if_pos trivial]
        by_cases e : i = th σ n j
        · rw [if_pos e]
        · rw [if_neg e]
          obtain ⟨q', b1, b2, b3⟩ := hi
          have : q' ≠ j := fun z => e (by rw [← z]; exact b3.symm)
          exact a6 i ⟨q', by omega, b2, b3⟩
      · simp only [rmF, e2, et]
        rw [if_neg hkk.1, if_neg hkk.2.1, if_pos trivial, if_neg (fun e => hi j (Int.le_refl _) (by omega) e.symm)]
        exact a7 i (fun q' b1 b2 => hi q' (by omega) b2)
  · dsimp only
    refine ⟨fun k i _ _ _ => rfl, fun i => by rw [if_neg (by omega)], fun i => ?_, fun i hi => ?_, fun i _ => rfl⟩
    · by_cases e : i = n
      · rw [if_pos e, e]; omega
      · rw [if_neg e]
    · obtain ⟨q, b1, b2, b3⟩ := hi
      omega
