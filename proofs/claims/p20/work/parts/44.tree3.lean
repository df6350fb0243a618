/-! ===== the pure part: hulls, the way down ===== -/
def lvn (σ : jx_St) (n : Int) : Prop := nd n ∧ 0 ≤ σ 2 n
def vbo (b : Int) : Prop := b = -1 ∨ vb b
theorem vb.R {b : Int} (h : vb b) : jx_R b := h.2.1
theorem vbo.R {b : Int} (h : vbo b) : jx_R b := by
  rcases h with h | h
  · rw [h]; exact jx_inR (by decide) (by decide)
  · exact h.R
/-- the box around the first things of a row, by what is noted of them -/
def rh (σ : jx_St) (n : Int) : Nat → Int
  | 0 => -1
  | k + 1 => ar (rh σ n k) (hv σ (th σ n (k : Int)) (σ 2 n))
def loc (σ : jx_St) (n : Int) : Prop := σ 4 n = rh σ n (σ 3 n).toNat
/-- the shape: what rows have, what is above -/
def Sh (σ : jx_St) : Prop :=
  (∀ m, lvn σ m → 0 ≤ σ 3 m ∧ σ 3 m ≤ 5 ∧ σ 2 m ≤ 3) ∧
  (∀ m k, lvn σ m → 0 ≤ k → k < σ 3 m → (σ 2 m = 0 → nb (th σ m k) ∧ vb (σ 0 (th σ m k))) ∧ (0 < σ 2 m → lvn σ (th σ m k) ∧ σ 2 (th σ m k) = σ 2 m - 1 ∧ σ 5 (th σ m k) = m)) ∧
  (∀ m, lvn σ m → σ 5 m = -1 ∨ (lvn σ (σ 5 m) ∧ σ 2 (σ 5 m) = σ 2 m + 1))
theorem Sh_tv {σ : jx_St} (h : Sh σ) {m k : Int} (hm : lvn σ m) (h0 : 0 ≤ k) (h1 : k < σ 3 m) : tv (th σ m k) (σ 2 m) := by
  obtain ⟨a, b⟩ := h.2.1 m k hm h0 h1
  unfold tv
  split
  · next e => exact (a e).1
  · next e => exact (b (by have := hm.2; omega)).1.1
theorem Sh_hv {σ : jx_St} (h : Sh σ) (hh : ∀ m, lvn σ m → vbo (σ 4 m)) {m k : Int} (hm : lvn σ m) (h0 : 0 ≤ k) (h1 : k < σ 3 m) : vbo (hv σ (th σ m k) (σ 2 m)) := by
  obtain ⟨a, b⟩ := h.2.1 m k hm h0 h1
  unfold hv
  split
  · next e => exact Or.inr (a e).2
  · next e => exact hh _ (b (by have := hm.2; omega)).1
theorem rh_vbo {σ : jx_St} (h : Sh σ) (hh : ∀ m, lvn σ m → vbo (σ 4 m)) {m : Int} (hm : lvn σ m) : ∀ (k : Nat), (k : Int) ≤ σ 3 m → vbo (rh σ m k) := by
  intro k
  induction k with
  | zero => intro _; exact Or.inl rfl
  | succ k ih => intro hk; exact ar_vb (ih (by omega)) (Sh_hv h hh hm (by omega) (by omega))
theorem rh_same {σ τ : jx_St} {m : Int} (h2 : τ 2 m = σ 2 m) (n : Nat) (hx : ∀ k : Int, 0 ≤ k → k < (n : Int) → th τ m k = th σ m k ∧ hv τ (th σ m k) (σ 2 m) = hv σ (th σ m k) (σ 2 m)) : rh τ m n = rh σ m n := by
  induction n with
  | zero => rfl
  | succ k ih =>
    obtain ⟨a, b⟩ := hx (k : Int) (by omega) (by omega)
    simp only [rh]
    rw [ih (fun j h0 h1 => hx j h0 (by omega)), a, h2, b]
theorem p_refresh {Q : jx_St → Prop} {σ : jx_St} {n t : Int} (hS : Sh σ) (hh : ∀ m, nd m → vbo (σ 4 m)) (hn : lvn σ n) (hl : ∀ m, lvn σ m → m ≠ n → m ≠ σ 5 n → m ≠ t → loc σ m) (h : ∀ τ : jx_St, (∀ k, k ≠ 4 → τ k = σ k) → (∀ m, nd m → vbo (τ 4 m)) → (∀ m, lvn σ m → m ≠ t → loc τ m) → Q τ) : wp_T_refresh Q σ n := by
  refine jx_loop (fun v => (∀ k, k ≠ 4 → v.1 k = σ k) ∧ (∀ m, nd m → vbo (v.1 4 m)) ∧ 0 ≤ v.2.2 ∧ (v.2.1 = -1 ∧ 0 < v.2.2 ∧ v.2.2 ≤ 4 ∨ lvn σ v.2.1 ∧ v.2.2 ≤ σ 2 v.2.1) ∧ (v.2.2 = 0 → v.2.1 = n) ∧ (∀ m, lvn σ m → m ≠ t → m ≠ v.2.1 → (m ≠ σ 5 n ∨ 0 < v.2.2) → loc v.1 m)) (fun v => (8 - v.2.2).toNat) (fun B v hI hB => ?_) ⟨fun _ _ => rfl, hh, Int.le_refl _, Or.inr ⟨hn, hn.2⟩, fun _ => rfl, fun m a1 a2 a3 a4 => hl m a1 a3 (by rcases a4 with z | z; exact z; exact absurd z (show ¬ (0 : Int) < 0 by decide)) a2⟩
  obtain ⟨τ, at_, st⟩ := v
  obtain ⟨b1, b2, b3, b4, b5, b6⟩ := hI
  dsimp only at b1 b2 b3 b4 b5 b6 ⊢
  rcases b4 with ⟨c1, c2, c3⟩ | ⟨c1, c2⟩
  · subst c1
    refine ⟨jx_inR (by omega) (by omega), fun _ => ⟨jx_inR (by decide) (by decide), fun _ => h τ b1 b2 (fun m a1 a2 => b6 m a1 a2 (fun e => ?_) (Or.inr c2)), fun q => absurd rfl q⟩, fun q => absurd (by omega) q⟩
    have := a1.1.1
    omega
  · have l3 := (hS.1 at_ c1).2.2
    have ht2 : ∀ i, τ 2 i = σ 2 i := fun i => by rw [b1 2 (by decide)]
    have ht3 : ∀ i, τ 3 i = σ 3 i := fun i => by rw [b1 3 (by decide)]
    have ht0 : ∀ i, τ 0 i = σ 0 i := fun i => by rw [b1 0 (by decide)]
    have hth : ∀ i k, th τ i k = th σ i k := fun i k => by unfold th; rw [b1 6 (by decide)]
    have hlv : ∀ i, lvn τ i ↔ lvn σ i := fun i => by unfold lvn; rw [ht2]
    have hS' : Sh τ := by
      refine ⟨fun m hm => ?_, fun m k hm h0 h1 => ?_, fun m hm => ?_⟩
      · rw [ht3, ht2]; exact hS.1 m ((hlv m).mp hm)
      · rw [ht3] at h1
        rw [hth, ht2, ht2, ht0, b1 5 (by decide)]
        have := hS.2.1 m k ((hlv m).mp hm) h0 h1
        exact ⟨this.1, fun z => ⟨(hlv _).mpr (this.2 z).1, (this.2 z).2⟩⟩
      · rw [b1 5 (by decide), ht2, ht2, hlv]
        exact hS.2.2 m ((hlv m).mp hm)
    have hh' : ∀ m, lvn τ m → vbo (τ 4 m) := fun m hm => b2 m hm.1
    have c1' := (hlv at_).mpr c1
    have s3 := hS'.1 at_ c1'
    refine ⟨jx_inR (by omega) (by omega), fun _ => ⟨c1.1.R, fun q => absurd q (by have := c1.1.1; omega), fun _ => p_levelOf c1.1 ?_⟩, fun q => absurd (by omega) q⟩
    refine jx_loop (fun w => 0 ≤ w.2 ∧ w.2 ≤ τ 3 at_ ∧ w.1 = rh τ at_ w.2.toNat) (fun w => (τ 3 at_ - w.2).toNat) (fun B2 w hI2 hB2 => ?_) ⟨Int.le_refl _, s3.1, rfl⟩
    obtain ⟨acc, j⟩ := w
    obtain ⟨d1, d2, d3⟩ := hI2
    dsimp only at d1 d2 d3 ⊢
    have hacc : vbo acc := by rw [d3]; exact rh_vbo hS' hh' c1' _ (by omega)
    refine p_sizeOf c1.1 ⟨jx_inR (by omega) (by omega), jx_inR (by omega) (by omega), fun q => ?_, fun q => ?_⟩
    · have hx := Sh_hv hS' hh' c1' d1 q
      refine p_thingAt c1.1 (by omega) (p_hull (jx_inR (by have := c1'.2; omega) (by omega)) (Sh_tv hS' c1' d1 q) (p_around hacc.R hx.R (hB2 _ ⟨by show 0 ≤ j + 1; omega, by show j + 1 ≤ _; omega, ?_⟩ (by show (τ 3 at_ - (j + 1)).toNat < (τ 3 at_ - j).toNat; omega))))
      dsimp only
      rw [show (j + 1).toNat = j.toNat + 1 by omega]
      simp only [rh]
      rw [← d3, Int.toNat_of_nonneg d1]
    · have ej : j = τ 3 at_ := by omega
      subst ej
      refine ⟨c1.1.R, p_aboveOf c1.1 ?_⟩
      rw [jx_se_in c1.1.1 c1.1.2]
      have hu : ∀ k, k ≠ 4 → jx_su τ 4 at_ acc k = σ k := fun k hk => by funext i; rw [jx_su_ne hk, b1 k hk]
      have e5 : jx_su τ 4 at_ acc 5 at_ = σ 5 at_ := by rw [hu 5 (by decide)]
      rw [e5]
      refine hB _ ⟨hu, fun m hm => ?_, by show 0 ≤ st + 1; omega, ?_, fun z => absurd z (by show ¬ st + 1 = 0; omega), fun m a1 a2 a3 a4 => ?_⟩ (by show (8 - (st + 1)).toNat < (8 - st).toNat; omega)
      · dsimp only
        rw [jx_su_same]
        split
        · exact hacc
        · exact b2 m hm
      · dsimp only
        rcases hS.2.2 at_ c1 with z | ⟨z1, z2⟩
        · exact Or.inl ⟨z, by omega, by omega⟩
        · exact Or.inr ⟨z1, by omega⟩
      · dsimp only at a3 ⊢
        have h6 : ∀ i k, th (jx_su τ 4 at_ acc) i k = th τ i k := fun i k => by unfold th; rw [jx_su_ne (by decide)]
        have h2 : ∀ i, jx_su τ 4 at_ acc 2 i = τ 2 i := fun i => jx_su_ne (by decide)
        have h3 : ∀ i, jx_su τ 4 at_ acc 3 i = τ 3 i := fun i => jx_su_ne (by decide)
        have hvv : ∀ k, 0 ≤ k → k < τ 3 m → hv (jx_su τ 4 at_ acc) (th τ m k) (τ 2 m) = hv τ (th τ m k) (τ 2 m) := by
          intro k k0 k1
          unfold hv
          split
          · exact jx_su_ne (by decide)
          · next e =>
            have hm' := (hlv m).mpr a1
            obtain ⟨g1, g2, g3⟩ := (hS'.2.1 m k hm' k0 k1).2 (by have := hm'.2; omega)
            rw [jx_su_same, if_neg]
            intro e2
            rw [e2, b1 5 (by decide)] at g3
            exact a3 g3.symm
        have hr : rh (jx_su τ 4 at_ acc) m (τ 3 m).toNat = rh τ m (τ 3 m).toNat := rh_same (h2 m) _ (fun k k0 k1 => ⟨h6 m k, hvv k k0 (by have := (hS'.1 m ((hlv m).mpr a1)).1; omega)⟩)
        unfold loc
        rw [h3, hr]
        by_cases e : m = at_
        · subst e
          rw [jx_su_eq]
          exact d3
        · rw [jx_su_same, if_neg e]
          refine b6 m a1 a2 e ?_
          by_cases z : 0 < st
          · exact Or.inr z
          · refine Or.inl (fun e2 => a3 ?_)
            rw [b5 (by omega)]
            exact e2
