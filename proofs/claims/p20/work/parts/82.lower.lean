/-! ===== the pure part: the root goes, on both sides ===== -/
theorem rmF_su7 {σ : jx_St} {n p x : Int} : rmF (jx_su σ 7 0 x) n p = jx_su (rmF σ n p) 7 0 x := by
  funext k i
  by_cases h7 : k = 7
  · subst h7
    rw [rmF_n (by decide) (by decide) (by decide) (by decide), jx_su_same, jx_su_same, rmF_n (by decide) (by decide) (by decide) (by decide)]
  · rw [jx_su_ne h7]
    have e : ∀ q j, q ≠ 7 → jx_su σ 7 0 x q j = σ q j := fun q j h => jx_su_ne h
    have et : th (jx_su σ 7 0 x) n p = th σ n p := e 6 _ (by decide)
    have e6 : jx_su σ 7 0 x 6 = σ 6 := by funext j; exact e 6 j (by decide)
    have e3 : jx_su σ 7 0 x 3 = σ 3 := by funext j; exact e 3 j (by decide)
    have e2 : jx_su σ 7 0 x 2 = σ 2 := by funext j; exact e 2 j (by decide)
    have ek : jx_su σ 7 0 x k = σ k := by funext j; exact e k j h7
    simp only [rmF, et, e6, e3, e2, ek]
theorem ag_root {σ μ : jx_St} {x : Int} (hA : Ag σ μ) : Ag (jx_su σ 7 0 x) (jx_su μ 0 0 x) := by
  have en : ∀ q i, q ≠ 7 → jx_su σ 7 0 x q i = σ q i := fun q i h => jx_su_ne h
  have fin : ∀ j, j ≠ 0 → jx_su μ 0 0 x 0 j = μ 0 j := fun j h => by rw [jx_su_same, if_neg h]
  have lv' : ∀ m, lvn (jx_su σ 7 0 x) m ↔ lvn σ m := fun m => by unfold lvn; rw [en 2 _ (by decide)]
  obtain ⟨c0, c1, c2, c3, c4, c5, c6, c7⟩ := hA
  refine ⟨?_, fun m m0 m1 => ?_, fun m hm => ?_, fun m k hm k0 k1 => ?_, fun c hc => ?_, fun c k hc hne k0 k1 => ?_, ?_, ?_⟩
  · rw [jx_su_eq, jx_su_eq]
  · rw [fin _ (by omega), c1 m m0 m1, en 2 _ (by decide)]
  · have := hm.1.1; rw [fin _ (by omega), c2 m ((lv' m).mp hm), en 3 _ (by decide)]
  · have := hm.1.1
    rw [en 3 _ (by decide)] at k1
    rw [fin _ (by omega), c3 m k ((lv' m).mp hm) k0 k1]; exact (en 6 _ (by decide)).symm
  · have := hc.1; rw [fin _ (by omega), c4 c hc, en 0 _ (by decide)]
  · have := hc.1
    rw [en 0 _ (by decide)] at hne ⊢
    rw [fin _ (by omega), c5 c k hc hne k0 k1]
  · rw [fin _ (by omega), c6, en 8 _ (by decide)]
  · rw [fin _ (by omega), c7, en 9 _ (by decide)]
def fR (Qm : jx_St → Prop) (l1 : Int) : (jx_St → Prop) → jx_St → Prop := fun B v => wp_M_takesBox_211 Qm l1 B v
theorem lock_lower {Q : jx_St → Prop} {σ μ : jx_St} {l1 : Int} (hW : Ws σ [] []) (hH : Hs σ []) (hAl : Al σ) (hA : Ag σ μ)
    (h : ∀ τ μ', Inv τ → Ag τ μ' → τ 0 = σ 0 → τ 10 = σ 10 → μ' 0 3 = μ 0 3 → (∀ z, z ≠ 0 → μ' z = μ z) → (∀ (Qm : jx_St → Prop), Qm μ' → jx_lp (fR Qm l1) μ) → Q τ) : wp_T_lowerRoot Q σ := by
  have hr3 := hW.1.2.1
  refine jx_loop (fun v => ∃ μ1, Ws v.1 [] [] ∧ Hs v.1 [] ∧ Al v.1 ∧ Ag v.1 μ1 ∧ v.1 0 = σ 0 ∧ v.1 10 = σ 10 ∧ μ1 0 3 = μ 0 3 ∧ (∀ z, z ≠ 0 → μ1 z = μ z) ∧ 0 ≤ v.2 ∧ v.2 + v.1 2 (v.1 7 0) ≤ 3 ∧ ∀ Qm, jx_lp (fR Qm l1) μ1 → jx_lp (fR Qm l1) μ) (fun v => (8 - v.2).toNat) (fun B v hJ hB => ?_) ⟨μ, hW, hH, hAl, hA, rfl, rfl, rfl, fun _ _ => rfl, Int.le_refl _, by dsimp only; omega, fun _ z => z⟩
  obtain ⟨σ1, st⟩ := v
  obtain ⟨μ1, w1, w2, w3, w4, w5, w6, w7, w8, w9, w10, w11⟩ := hJ
  dsimp only at w1 w2 w3 w4 w5 w6 w7 w8 w9 w10 w11 ⊢
  have hr := w1.1.1
  have r0 := hr.2
  have e0 : μ1 0 0 = σ1 7 0 := w4.1
  generalize hrr : σ1 7 0 = r at hr r0 w10 e0
  have sz := w1.sh.1 r hr
  have lR : jx_R (σ1 2 r) := w1.R2 hr
  have sR : jx_R (σ1 3 r) := jx_inR (by omega) (by omega)
  unfold wp_T_lowerRoot_2
  rw [hrr]
  refine ⟨jx_inR (by omega) (by omega), fun _ => p_levelOf hr.1 ⟨lR, fun q => ?_, fun q => p_sizeOf hr.1 ⟨sR, fun y => ?_, fun y => ?_⟩⟩, fun q => absurd (show st < 8 by omega) q⟩
  · refine h σ1 μ1 ⟨w1, w2, w3, fun z => absurd z (by rw [hrr]; omega)⟩ w4 w5 w6 w7 w8 (fun Qm hQ => w11 Qm (lp_done (fun B' => ?_)))
    show wp_M_takesBox_211 Qm l1 B' μ1
    unfold wp_M_takesBox_211
    rw [e0]
    exact m_level w4 hr.1 ⟨lR, fun _ => hQ, fun z => absurd q z⟩
  · -- it goes
    have hx := th_kids (σ := σ1) (n := r) (k := 0) (Int.le_refl _) (by omega)
    obtain ⟨x1, x2, x3, x4⟩ := w1.kid hr (by omega) hx
    refine p_thingAt hr.1 ⟨Int.le_refl _, by decide⟩ ?_
    generalize hxx : th σ1 r 0 = x at hx x1 x2 x3 x4
    have en : ∀ q i, q ≠ 7 → jx_su σ1 7 0 x q i = σ1 q i := fun q i h => jx_su_ne h
    have tx : tv x (σ1 2 r) := by unfold tv; rw [if_neg (by omega)]; exact x1.1
    have eth : th (jx_su σ1 7 0 x) r 0 = x := by rw [← hxx]; exact en 6 _ (by decide)
    refine p_drop1 hr.1 (by rw [en 3 _ (by decide)]; exact y) (by rw [en 2 _ (by decide)]; exact lR) (by rw [eth, en 2 _ (by decide)]; exact tx) ?_
    rw [rmF_su7]
    have hp0 : 0 ≤ (0 : Int) ∧ (0 : Int) < σ1 3 r := by omega
    have hW1 := ws_detach w1 hr hp0
    have hH1 := hs_rm w1 w2 hr hp0
    rw [hxx] at hW1
    have q7 : rmF σ1 r 0 7 0 = r := by rw [rmF_n (by decide) (by decide) (by decide) (by decide), hrr]
    have q2 : ∀ m, rmF σ1 r 0 2 m = σ1 2 m := fun m => rmF_2
    have q3 : ∀ m, rmF σ1 r 0 3 m = if m = r then 0 else σ1 3 m := fun m => by
      simp only [rmF]
      rw [if_neg (by decide), if_pos trivial, y]; rfl
    have hW2 : Ws (rmF σ1 r 0) ((x, rmF σ1 r 0 2 (rmF σ1 r 0 7 0)) :: []) [r] := by rw [q7, q2]; exact hW1
    have hW3 := ws_lower hW2 (by rw [q7, q2]; omega) (by rw [q7, q3, if_pos rfl]) (fun a b hab => absurd hab List.not_mem_nil)
    rw [q7] at hW3
    have xr : x ≠ r := fun e => x4 (e.trans hrr.symm)
    generalize hτ : dpF (jx_su (rmF σ1 r 0) 7 0 x) r = τ at hW3
    have d2 : ∀ m, τ 2 m = if m = r then -1 else σ1 2 m := fun m => by rw [← hτ, dpF_2, jx_su_ne (by decide), q2]
    have d3 : ∀ m, τ 3 m = if m = r then 0 else σ1 3 m := fun m => by rw [← hτ, dpF_n (by decide) (by decide) (by decide), jx_su_ne (by decide), q3]
    have d7 : τ 7 0 = x := by rw [← hτ, dpF_n (by decide) (by decide) (by decide), jx_su_eq]
    have dn : ∀ q i, q ≠ 1 → q ≠ 2 → q ≠ 3 → q ≠ 4 → q ≠ 5 → q ≠ 6 → q ≠ 7 → τ q i = σ1 q i := fun q i q1 q2 q3 q4 q5 q6 q7 => by rw [← hτ, dpF_n q2 q4 q5, jx_su_ne q7, rmF_n q1 q3 q5 q6]
    have nl : ¬ lvn τ r := fun h => by have := h.2; rw [d2, if_pos rfl] at this; omega
    have hWt : Ws τ [] [] := ws_E hW3 (fun m hm => Or.inr (fun h => absurd (by rw [List.mem_singleton.mp hm] at h; exact h) nl))
    have hHt : Hs τ [] := by
      rw [← hτ]
      refine (hs_drop (fun m hm => ?_) (hs_root (r := x) hW1 hH1) (fun m hm hpos _ hk => ?_)).sub (fun m hm => ?_)
      · rw [jx_su_ne (by decide)]
        exact (hW1.sh.1 m (by unfold lvn at hm ⊢; rw [jx_su_ne (by decide)] at hm; exact hm)).1
      · have hm' : lvn (rmF σ1 r 0) m := by unfold lvn at hm ⊢; rw [jx_su_ne (by decide)] at hm; exact hm
        have hk' : r ∈ kids (rmF σ1 r 0) m := by
          rw [← kids_same (σ := rmF σ1 r 0) (τ := jx_su (rmF σ1 r 0) 7 0 x) (jx_su_ne (by decide)) (fun k _ _ => jx_su_ne (by decide))]
          exact hk
        rcases (hW1.2.2.2.2.1 m r hm' hk').1 with ⟨z1, _, _⟩ | ⟨_, _, _, z⟩
        · rw [jx_su_ne (by decide)] at hpos
          omega
        · exact z q7.symm
      · rw [List.mem_singleton.mp hm]
        rw [hτ]; exact Or.inr nl
    have lv' : ∀ m, lvn τ m → lvn σ1 m ∧ m ≠ r := fun m hm => by
      have h := hm.2
      rw [d2] at h
      by_cases z : m = r
      · rw [if_pos z] at h; omega
      · rw [if_neg z] at h; exact ⟨⟨hm.1, h⟩, z⟩
    have hAlt : Al τ := fun m hm => by
      obtain ⟨a, b⟩ := lv' m hm
      rw [d3, if_neg b]; exact w3 m a
    have hA1 := ag_root (x := x) (ag_drop w4 hr y (fun m hm => (w1.sh.1 m hm).2.1))
    have hAt : Ag τ (jx_su (jx_su μ1 0 (159 + r) (-1)) 0 0 x) := by
      have ed : ∀ q i, q ≠ 7 → jx_su (dpF (rmF σ1 r 0) r) 7 0 x q i = τ q i := fun q i h7 => by
        rw [jx_su_ne h7, ← hτ]
        unfold dpF
        simp only [jx_su, if_neg h7]
        simp [h7]
      exact hA1.obs (by rw [d7, jx_su_eq]) (fun m => (ed 2 m (by decide)).symm) (fun m _ => (ed 3 m (by decide)).symm) (fun m k _ _ _ => (ed 6 _ (by decide)).symm) (fun c _ => (ed 0 c (by decide)).symm) (ed 8 0 (by decide)).symm (ed 9 0 (by decide)).symm
    have rn := hr.1.1
    refine hB _ ⟨_, hWt, hHt, hAlt, hAt, ?_, ?_, ?_, fun z z0 => ?_, by dsimp only; omega, ?_, fun Qm hQ => w11 Qm (lp_step (a' := jx_su (jx_su μ1 0 (159 + r) (-1)) 0 0 x) (fun B' hB' => ?_) hQ)⟩ (by dsimp only; omega)
    · dsimp only; rw [← w5]; funext i; exact dn 0 i (by decide) (by decide) (by decide) (by decide) (by decide) (by decide) (by decide)
    · dsimp only; rw [← w6]; funext i; exact dn 10 i (by decide) (by decide) (by decide) (by decide) (by decide) (by decide) (by decide)
    · rw [jx_su_same, if_neg (by decide), jx_su_same, if_neg (by omega), w7]
    · funext i; rw [jx_su_ne z0, jx_su_ne z0, w8 z z0]
    · dsimp only; rw [d7, d2, if_neg xr]; omega
    · show wp_M_takesBox_211 Qm l1 B' μ1
      unfold wp_M_takesBox_211
      rw [e0]
      refine m_level w4 hr.1 ⟨lR, fun z => absurd z q, fun _ => m_manyOf w4 hr ⟨sR, fun _ => m_thing w4 hr sz.2.1 (Int.le_refl _) (by omega) ?_, fun z => absurd y z⟩⟩
      rw [hxx]
      exact ⟨⟨by omega, by have := hr.1.2; show 159 + r < 439; omega⟩, hB'⟩
  · refine h σ1 μ1 ⟨w1, w2, w3, fun z => ?_⟩ w4 w5 w6 w7 w8 (fun Qm hQ => w11 Qm (lp_done (fun B' => ?_)))
    · rw [hrr]
      have := ((w1.2.2.2.1 r hr).2.2.resolve_left List.not_mem_nil).2 (by omega)
      omega
    · show wp_M_takesBox_211 Qm l1 B' μ1
      unfold wp_M_takesBox_211
      rw [e0]
      exact m_level w4 hr.1 ⟨lR, fun z => absurd z q, fun _ => m_manyOf w4 hr ⟨sR, fun z => absurd z y, fun _ => hQ⟩⟩
