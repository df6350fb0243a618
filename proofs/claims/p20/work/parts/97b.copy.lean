def Er (σ τ : jx_St) : Prop := (∀ i, 0 ≤ i → i < 31 → τ 0 i = σ 0 i ∧ τ 1 i = σ 1 i) ∧ (∀ i, 0 ≤ i → i < 32 → τ 2 i = σ 2 i ∧ τ 3 i = σ 3 i ∧ τ 4 i = σ 4 i ∧ τ 5 i = σ 5 i) ∧ (∀ i, 0 ≤ i → i < 160 → τ 6 i = σ 6 i) ∧ τ 7 0 = σ 7 0 ∧ τ 8 0 = σ 8 0 ∧ τ 9 0 = σ 9 0 ∧ τ 10 0 = σ 10 0
theorem cp_ne {σ : jx_St} {k k' n : Nat} {f : Int → Int} {i : Int} (h : k' ≠ k) : jx_cp σ k f n k' i = σ k' i := by unfold jx_cp; rw [if_neg (fun z => h z.1)]
theorem cp_in {σ : jx_St} {k n : Nat} {f : Int → Int} {i : Int} (h0 : 0 ≤ i) (h1 : i < (n : Int)) : jx_cp σ k f n k i = f i := by unfold jx_cp; rw [if_pos ⟨rfl, h0, h1⟩]
theorem p_copy {Q : jx_St → Prop} {σ τ0 : jx_St} (h : ∀ τ, Er σ τ → Q τ) : wp_T_copy Q τ0 σ := by
  refine h _ ⟨fun i i0 i1 => ⟨?_, ?_⟩, fun i i0 i1 => ⟨?_, ?_, ?_, ?_⟩, fun i i0 i1 => ?_, ?_, ?_, ?_, ?_⟩
  · rw [jx_su_ne (by decide), jx_su_ne (by decide), jx_su_ne (by decide), jx_su_ne (by decide), cp_ne (by decide), cp_ne (by decide), cp_ne (by decide), cp_ne (by decide), cp_ne (by decide), cp_ne (by decide), cp_in i0 i1]
  · rw [jx_su_ne (by decide), jx_su_ne (by decide), jx_su_ne (by decide), jx_su_ne (by decide), cp_ne (by decide), cp_ne (by decide), cp_ne (by decide), cp_ne (by decide), cp_ne (by decide), cp_in i0 i1]
  · rw [jx_su_ne (by decide), jx_su_ne (by decide), jx_su_ne (by decide), jx_su_ne (by decide), cp_ne (by decide), cp_ne (by decide), cp_ne (by decide), cp_ne (by decide), cp_in i0 i1]
  · rw [jx_su_ne (by decide), jx_su_ne (by decide), jx_su_ne (by decide), jx_su_ne (by decide), cp_ne (by decide), cp_ne (by decide), cp_ne (by decide), cp_in i0 i1]
  · rw [jx_su_ne (by decide), jx_su_ne (by decide), jx_su_ne (by decide), jx_su_ne (by decide), cp_ne (by decide), cp_ne (by decide), cp_in i0 i1]
  · rw [jx_su_ne (by decide), jx_su_ne (by decide), jx_su_ne (by decide), jx_su_ne (by decide), cp_ne (by decide), cp_in i0 i1]
  · rw [jx_su_ne (by decide), jx_su_ne (by decide), jx_su_ne (by decide), jx_su_ne (by decide), cp_in i0 i1]
  · rw [jx_su_ne (by decide), jx_su_ne (by decide), jx_su_ne (by decide), jx_su_eq]
  · rw [jx_su_ne (by decide), jx_su_ne (by decide), jx_su_eq]
  · rw [jx_su_ne (by decide), jx_su_eq]
  · rw [jx_su_eq]
theorem inv_er {σ τ : jx_St} (h : Inv σ) (e : Er σ τ) : Inv τ := by
  obtain ⟨hW, hH, hAl, hR2⟩ := h
  obtain ⟨e01, e25, e6, e7, e8, e9, e10⟩ := e
  have e0 : ∀ b, nb b → τ 0 b = σ 0 b := fun b hb => (e01 b hb.1 hb.2).1
  have e1 : ∀ b, nb b → τ 1 b = σ 1 b := fun b hb => (e01 b hb.1 hb.2).2
  have e2 : ∀ m, nd m → τ 2 m = σ 2 m := fun m hm => (e25 m hm.1 hm.2).1
  have e3 : ∀ m, nd m → τ 3 m = σ 3 m := fun m hm => (e25 m hm.1 hm.2).2.1
  have e4 : ∀ m, nd m → τ 4 m = σ 4 m := fun m hm => (e25 m hm.1 hm.2).2.2.1
  have e5 : ∀ m, nd m → τ 5 m = σ 5 m := fun m hm => (e25 m hm.1 hm.2).2.2.2
  have et : ∀ m k, nd m → 0 ≤ k → k < 5 → th τ m k = th σ m k := fun m k hm k0 k1 => e6 _ (by have := hm.1; omega) (by have := hm.2; omega)
  have lv' : ∀ m, lvn τ m ↔ lvn σ m := fun m => ⟨fun h => ⟨h.1, by rw [← e2 m h.1]; exact h.2⟩, fun h => ⟨h.1, by rw [e2 m h.1]; exact h.2⟩⟩
  have ek : ∀ m, lvn σ m → kids τ m = kids σ m := fun m hm => kids_same (e3 m hm.1) (fun k k0 k1 => et m k hm.1 k0 (by have := (hW.sh.1 m hm).2.1; omega))
  have al : ∀ x l, alv τ x l ↔ alv σ x l := fun x l => by
    unfold alv
    rw [lv', e7]
    constructor
    · rintro (⟨a, b, c⟩ | ⟨a, b, c, d⟩)
      · exact Or.inl ⟨a, b, by rw [← e0 x b]; exact c⟩
      · exact Or.inr ⟨a, b, by rw [← e2 x b.1]; exact c, d⟩
    · rintro (⟨a, b, c⟩ | ⟨a, b, c, d⟩)
      · exact Or.inl ⟨a, b, by rw [e0 x b]; exact c⟩
      · exact Or.inr ⟨a, b, by rw [e2 x b.1]; exact c, d⟩
  have hmE : ∀ x l, alv σ x l → hm τ x l = hm σ x l := fun x l h => by
    unfold hm
    rcases h with ⟨a, b, c⟩ | ⟨a, b, c, d⟩
    · rw [if_pos a, if_pos a, e1 x b]
    · rw [if_neg (by omega), if_neg (by omega), e5 x b.1]
  have hr := hW.1.1
  refine ⟨?_, ?_, fun m hm => ?_, ?_⟩
  · obtain ⟨w1, w2, w3, w4, w5, w6, w7, w8, w9, w10⟩ := hW
    refine ⟨?_, fun n hn => ?_, fun n hn => ?_, fun n hn => ?_, fun n x hn hx => ?_, fun n hn => ?_, fun x l hx => ?_, fun x l hx => ?_, w9, fun b hb => ?_⟩
    · rw [e7, lv', e2 _ hr.1, e5 _ hr.1]; exact w1
    · rw [e7, e2 n hn, e2 _ hr.1]; exact w2 n hn
    · rw [e2 n hn, e3 n hn, e5 n hn]; exact w3 n hn
    · have hn' := (lv' n).mp hn
      rw [e2 n hn.1, e3 n hn.1, e7]; exact w4 n hn'
    · have hn' := (lv' n).mp hn
      rw [ek n hn'] at hx
      rw [e2 n hn.1, al, hmE x _ (w5 n x hn' hx).1]
      exact w5 n x hn' hx
    · have hn' := (lv' n).mp hn
      rw [ek n hn']; exact w6 n hn'
    · have hx' := (al x l).mp hx
      rw [hmE x l hx', lv']
      rcases w7 x l hx' with z | ⟨z1, z2, z3⟩
      · exact Or.inl z
      · exact Or.inr ⟨z1, by rw [e2 _ z1.1]; exact z2, by rw [ek _ z1]; exact z3⟩
    · exact absurd hx List.not_mem_nil
    · rw [e0 b hb]; exact w10 b hb
  · refine ⟨fun m hm => by rw [e4 m hm]; exact hH.1 m hm, fun m hm _ => ?_⟩
    have hm' := (lv' m).mp hm
    have s5 := hW.sh.1 m hm'
    refine loc_same (e2 m hm.1) (e3 m hm.1) (e4 m hm.1) s5.1 (fun k k0 k1 => ⟨et m k hm.1 k0 (by omega), ?_⟩) (hH.2 m hm' List.not_mem_nil)
    have htv := Sh_tv hW.sh hm' k0 k1
    unfold tv at htv
    unfold hv
    by_cases c : σ 2 m = 0
    · rw [if_pos c] at htv ⊢; rw [if_pos c]; exact e0 _ htv
    · rw [if_neg c] at htv ⊢; rw [if_neg c]; exact e4 _ htv
  · rw [e3 m hm.1]; exact hAl m ((lv' m).mp hm)
  · unfold R2 at hR2 ⊢
    rw [e7, e2 _ hr.1, e3 _ hr.1]; exact hR2
theorem ag_er {σ τ μ : jx_St} (hI : Inv σ) (h : Ag σ μ) (e : Er σ τ) : Ag τ μ := by
  obtain ⟨e01, e25, e6, e7, e8, e9, e10⟩ := e
  have e2 : ∀ m, nd m → τ 2 m = σ 2 m := fun m hm => (e25 m hm.1 hm.2).1
  have lv' : ∀ m, lvn τ m → lvn σ m := fun m h => ⟨h.1, by rw [← e2 m h.1]; exact h.2⟩
  obtain ⟨c0, c1, c2, c3, c4, c5, c6, c7⟩ := h
  refine ⟨by rw [c0, e7], fun m m0 m1 => ?_, fun m hm => ?_, fun m k hm k0 k1 => ?_, fun c hc => ?_, fun c k hc hne k0 k1 => ?_, by rw [c6, e8], by rw [c7, e9]⟩
  · rw [c1 m m0 m1]
    by_cases z : m < 32
    · rw [if_pos z, if_pos z, e2 m ⟨m0, z⟩]
    · rw [if_neg z, if_neg z]
  · rw [c2 m (lv' m hm), (e25 m hm.1.1 hm.1.2).2.1]
  · rw [(e25 m hm.1.1 hm.1.2).2.1] at k1
    have := (hI.1.sh.1 m (lv' m hm)).2.1
    rw [c3 m k (lv' m hm) k0 k1]
    exact (e6 _ (by have := hm.1.1; omega) (by have := hm.1.2; omega)).symm
  · rw [c4 c hc, (e01 c hc.1 hc.2).1]
  · rw [(e01 c hc.1 hc.2).1] at hne ⊢
    exact c5 c k hc hne k0 k1
theorem ag_in {σ μ μ' : jx_St} (hI : Inv σ) (h : Ag σ μ) (e : ∀ j, 0 ≤ j → j < 439 → μ' 0 j = μ 0 j) : Ag σ μ' := by
  obtain ⟨c0, c1, c2, c3, c4, c5, c6, c7⟩ := h
  refine ⟨by rw [e 0 (by decide) (by decide), c0], fun m m0 m1 => ?_, fun m hm => ?_, fun m k hm k0 k1 => ?_, fun c hc => ?_, fun c k hc hne k0 k1 => ?_, by rw [e 1 (by decide) (by decide), c6], by rw [e 2 (by decide) (by decide), c7]⟩
  · rw [e _ (by omega) (by omega), c1 m m0 m1]
  · have := hm.1.1; have := hm.1.2; rw [e _ (by omega) (by omega), c2 m hm]
  · have := hm.1.1; have := hm.1.2; have := (hI.1.sh.1 m hm).2.1
    rw [e _ (by omega) (by omega), c3 m k hm k0 k1]
  · have := hc.1; have := hc.2; rw [e _ (by omega) (by omega), c4 c hc]
  · have := hc.1; have := hc.2; rw [e _ (by omega) (by omega), c5 c k hc hne k0 k1]
