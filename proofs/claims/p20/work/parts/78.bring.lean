/-! ===== the pure part: both sides put a box ===== -/
/-- what holds between calls -/
def Inv (σ : jx_St) : Prop := Ws σ [] [] ∧ Hs σ [] ∧ Al σ ∧ R2 σ
theorem ag_box {σ μ μ' : jx_St} {b v : Int} (hA : Ag σ μ) (hb : nb b) (hv : v ≠ -1) (h1 : μ' 0 (4 + b) = 1) (h2 : ∀ k, 0 ≤ k → k < 4 → μ' 0 (35 + 4 * b + k) = bs v k) (h3 : ∀ j, j ≠ 4 + b → (j < 35 + 4 * b ∨ 35 + 4 * b + 4 ≤ j) → μ' 0 j = μ 0 j) : Ag (jx_su σ 0 b v) μ' := by
  have b0 := hb.1
  have b1 := hb.2
  have en : ∀ q i, q ≠ 0 → jx_su σ 0 b v q i = σ q i := fun q i h => jx_su_ne h
  have lv' : ∀ m, lvn (jx_su σ 0 b v) m ↔ lvn σ m := fun m => by unfold lvn; rw [en 2 _ (by decide)]
  obtain ⟨c0, c1, c2, c3, c4, c5, c6, c7⟩ := hA
  refine ⟨?_, fun m m0 m1 => ?_, fun m hm => ?_, fun m k hm k0 k1 => ?_, fun c hc => ?_, fun c k hc hne k0 k1 => ?_, ?_, ?_⟩
  · rw [h3 0 (by omega) (by omega), c0, en 7 _ (by decide)]
  · rw [h3 _ (by omega) (by omega), c1 m m0 m1, en 2 _ (by decide)]
  · have := hm.1.1
    rw [h3 _ (by omega) (by omega), c2 m ((lv' m).mp hm), en 3 _ (by decide)]
  · have := hm.1.1
    rw [en 3 _ (by decide)] at k1
    rw [h3 _ (by omega) (by omega), c3 m k ((lv' m).mp hm) k0 k1]
    exact (en 6 _ (by decide)).symm
  · have := hc.1
    have := hc.2
    rw [jx_su_same]
    by_cases z : c = b
    · rw [if_pos z, if_neg hv, z, h1]
    · rw [if_neg z, h3 _ (by omega) (by omega), c4 c hc]
  · have := hc.1
    have := hc.2
    rw [jx_su_same] at hne ⊢
    by_cases z : c = b
    · rw [if_pos z, z]; exact h2 k k0 k1
    · rw [if_neg z] at hne ⊢
      rw [h3 _ (by omega) (by omega), c5 c k hc hne k0 k1]
  · rw [h3 1 (by omega) (by omega), c6, en 8 _ (by decide)]
  · rw [h3 2 (by omega) (by omega), c7, en 9 _ (by decide)]
theorem ag_unbox {σ μ μ' : jx_St} {b : Int} (hA : Ag σ μ) (hb : nb b) (h1 : μ' 0 (4 + b) = 0) (h3 : ∀ j, j ≠ 4 + b → μ' 0 j = μ 0 j) : Ag (jx_su σ 0 b (-1)) μ' := by
  have b0 := hb.1
  have b1 := hb.2
  have en : ∀ q i, q ≠ 0 → jx_su σ 0 b (-1) q i = σ q i := fun q i h => jx_su_ne h
  have lv' : ∀ m, lvn (jx_su σ 0 b (-1)) m ↔ lvn σ m := fun m => by unfold lvn; rw [en 2 _ (by decide)]
  obtain ⟨c0, c1, c2, c3, c4, c5, c6, c7⟩ := hA
  refine ⟨?_, fun m m0 m1 => ?_, fun m hm => ?_, fun m k hm k0 k1 => ?_, fun c hc => ?_, fun c k hc hne k0 k1 => ?_, ?_, ?_⟩
  · rw [h3 0 (by omega), c0, en 7 _ (by decide)]
  · rw [h3 _ (by omega), c1 m m0 m1, en 2 _ (by decide)]
  · have := hm.1.1
    rw [h3 _ (by omega), c2 m ((lv' m).mp hm), en 3 _ (by decide)]
  · have := hm.1.1
    rw [en 3 _ (by decide)] at k1
    rw [h3 _ (by omega), c3 m k ((lv' m).mp hm) k0 k1]
    exact (en 6 _ (by decide)).symm
  · have := hc.1
    have := hc.2
    rw [jx_su_same]
    by_cases z : c = b
    · rw [if_pos z, if_pos rfl, z, h1]
    · rw [if_neg z, h3 _ (by omega), c4 c hc]
  · have := hc.1
    have := hc.2
    rw [jx_su_same] at hne ⊢
    by_cases z : c = b
    · rw [if_pos z] at hne; exact absurd rfl hne
    · rw [if_neg z] at hne ⊢
      rw [h3 _ (by omega), c5 c k hc hne k0 k1]
  · rw [h3 1 (by omega), c6, en 8 _ (by decide)]
  · rw [h3 2 (by omega), c7, en 9 _ (by decide)]
theorem lock_bringIn {Q : jx_St → jx_St → jx_St → Prop} {ρ ψ σ μ : jx_St} {b v : Int} (hI : Inv σ) (hA : Ag σ μ) (hb : nb b) (h0 : σ 0 b = -1) (hv : vb v)
    (h : ∀ ρ' ψ' τ μ', Inv τ → Ag τ μ' → τ 0 = jx_su σ 0 b v 0 → τ 10 = σ 10 → Cr ρ' μ' → ρ' 8 0 ≤ 4 → (Km μ μ' ∧ τ 8 0 = σ 8 0 + ρ' 8 0 ∧ CQ ρ' τ) → (∀ (Qm : jx_St → Prop), Qm μ' → wp_M_putsBox Qm μ b (bs v 0) (bs v 1) (bs v 2) (bs v 3)) → Q ρ' ψ' τ) : wp_C_bringIn Q ρ ψ σ b v := by
  have b0 := hb.1
  have b1 := hb.2
  have hv1 : v ≠ -1 := by have := hv.1; omega
  obtain ⟨hW, hH, hAl, hR⟩ := hI
  have hWb := ws_box hW hb h0 hv
  have hHb : Hs (jx_su σ 0 b v) [] := hs_box hW hH (fun m hm hl hk => by
    rcases (hW.2.2.2.2.1 m b hm hk).1 with ⟨_, _, z⟩ | ⟨z, _⟩
    · exact z h0
    · omega)
  have en : ∀ q i, q ≠ 0 → jx_su σ 0 b v q i = σ q i := fun q i h => jx_su_ne h
  obtain ⟨μ1, hμ1⟩ : ∃ u : jx_St, u = jx_su (jx_su (jx_su (jx_su (jx_su (jx_su μ 0 (4 + b) 1) 0 (35 + (4 * b)) (bs v 0)) 0 ((35 + (4 * b)) + 1) (bs v 1)) 0 ((35 + (4 * b)) + 2) (bs v 2)) 0 ((35 + (4 * b)) + 3) (bs v 3)) 17 0 0 := ⟨_, rfl⟩
  have f0 : ∀ j, μ1 0 j = if j = 35 + 4 * b + 3 then bs v 3 else if j = 35 + 4 * b + 2 then bs v 2 else if j = 35 + 4 * b + 1 then bs v 1 else if j = 35 + 4 * b then bs v 0 else if j = 4 + b then 1 else μ 0 j := fun j => by
    rw [hμ1, jx_su_ne (by decide), jx_su_same, jx_su_same, jx_su_same, jx_su_same, jx_su_same]
  have fz : ∀ z, z ≠ 0 → z ≠ 17 → μ1 z = μ z := fun z z0 z17 => by
    funext i
    rw [hμ1, jx_su_ne z17, jx_su_ne z0, jx_su_ne z0, jx_su_ne z0, jx_su_ne z0, jx_su_ne z0]
  have f17 : μ1 17 0 = 0 := by rw [hμ1]; exact jx_su_eq
  have hA1 : Ag (jx_su σ 0 b v) μ1 := by
    refine ag_box hA hb hv1 ?_ (fun k k0 k1 => ?_) (fun j j1 j2 => ?_)
    · rw [f0, if_neg (by omega), if_neg (by omega), if_neg (by omega), if_neg (by omega), if_pos rfl]
    · rw [f0]
      have : k = 0 ∨ k = 1 ∨ k = 2 ∨ k = 3 := by omega
      rcases this with z | z | z | z
      · rw [z, if_neg (by omega), if_neg (by omega), if_neg (by omega), if_pos (by omega)]
      · rw [z, if_neg (by omega), if_neg (by omega), if_pos rfl]
      · rw [z, if_neg (by omega), if_pos rfl]
      · rw [z, if_pos rfl]
    · rw [f0, if_neg (by omega), if_neg (by omega), if_neg (by omega), if_neg (by omega), if_neg j1]
  have r7 : jx_su σ 0 b v 7 0 = σ 7 0 := en 7 0 (by decide)
  have hK : Km μ μ1 := ⟨fun z hz => by
    obtain ⟨z0, z7, z8, z9, z10, z11, z12, z13, z14, z15, z16, z17, _⟩ := km_ne hz
    exact fz z z0 z17, by rw [f0, if_neg (by omega), if_neg (by omega), if_neg (by omega), if_neg (by omega), if_neg (by omega)]⟩
  have lvl := hW.1.1.2
  refine p_setBox hb (lock_insert (P0 := []) hWb hHb (fun m hm => ?_) hA1 (fun a ha => ?_) ⟨by rw [f17]; exact jx_su_eq.symm, by rw [jx_su_eq]; exact Int.le_refl _, fun j j0 j1 => ?_⟩ (by rw [jx_su_eq]; decide) (fun ρ' ψ' τ μ' q1 q2 q3 q4 q5 q6 q7 q8 q9 q10 q11 => ?_))
  · rw [en 3 _ (by decide)]
    exact hAl m (by unfold lvn at hm ⊢; rw [en 2 _ (by decide)] at hm; exact hm)
  · rw [List.mem_singleton.mp ha, r7, en 2 _ (by decide)]
    exact lvl
  · rw [jx_su_eq] at j1; omega
  · refine h ρ' ψ' τ μ' ⟨q1, q2, q3, q5.2.2.2 ?_⟩ q4 q5.1 (by rw [q5.2.1]; funext i; exact en 10 i (by decide)) q6 (by rw [jx_su_eq] at q8; omega) ⟨hK.trans' q10.1, by have h1 := q10.2.1; rw [jx_su_eq, en 8 0 (by decide)] at h1; omega, q10.2.2 jx_su_eq⟩ (fun Qm hQ => ?_)
    · unfold R2
      rw [r7, en 2 _ (by decide), en 3 _ (by decide)]
      exact hR
    · refine ⟨⟨by omega, by show 4 + b < 439; omega⟩, ⟨by omega, by show 35 + 4 * b < 439; omega⟩, ⟨by omega, by show 35 + 4 * b + 1 < 439; omega⟩, ⟨by omega, by show 35 + 4 * b + 2 < 439; omega⟩, ⟨by omega, by show 35 + 4 * b + 3 < 439; omega⟩, ?_⟩
      rw [← hμ1]
      exact q11 _ hQ
