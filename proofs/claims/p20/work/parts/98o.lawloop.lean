/-! ===== the property: the law's own loop ===== -/
theorem sN_one {c c' : Nat → Nat} {b : Nat} (h : ∀ j, c' j = c j + (if j = b then 1 else 0)) : ∀ k, sN c' k = sN c k + (if b < k then 1 else 0) := by
  intro k
  induction k with
  | zero => rfl
  | succ k ih =>
    simp only [sN]
    rw [ih, h k]
    by_cases e : k = b
    · rw [if_pos e, if_neg (by omega), if_pos (by omega)]; omega
    · rw [if_neg e]
      by_cases d : b < k
      · rw [if_pos d, if_pos (by omega)]; omega
      · rw [if_neg d, if_neg (by omega)]; omega
theorem nBx_put {σ τ : jx_St} {b v : Int} (hb : nb b) (hx : σ 0 b = -1) (hv : v ≠ -1) (h : τ 0 = jx_su σ 0 b v 0) : nBx τ = nBx σ + 1 := by
  have b0 := hb.1
  have b1 := hb.2
  unfold nBx
  rw [sN_one (c := cB σ) (c' := cB τ) (b := b.toNat) (fun j => by
    unfold cB
    rw [h, jx_su_same]
    by_cases e : j = b.toNat
    · have e' : (j : Int) = b := by omega
      rw [if_pos e', if_pos ⟨by omega, hv⟩, if_neg (fun z => z.2 (by rw [e']; exact hx)), if_pos e]
    · rw [if_neg (show ¬ (j : Int) = b by omega), if_neg e]; rfl), if_pos (by omega)]
  omega
def GS (ρ σ η h0 h1 h2 h3 ο : jx_St) : Prop := Inv σ ∧ (0 ≤ ρ 8 0 ∧ ρ 8 0 ≤ 32) ∧ HI η h0 h1 h2 h3 ∧ Txo ο
theorem l_869 {Q : Int → Prop} {L : Nat} {xs : Nat → Int32} {B : jx_St × jx_St × jx_St × jx_St × jx_St × jx_St × jx_St × jx_St × jx_St × jx_St × jx_St × jx_St × jx_St × Int × Int → Prop} {K : jx_St × jx_St × jx_St × jx_St × jx_St × jx_St × jx_St × jx_St × jx_St × jx_St × jx_St × jx_St × jx_St × Int → Prop} {β ρ ψ σ ω ν υ η h0 h1 h2 h3 ο : jx_St} {t v w wide high box : Int} (hG : GS ρ σ η h0 h1 h2 h3 ο) (ht : 0 ≤ t ∧ t < 30) (hv : 0 ≤ v ∧ v < 90) (hw : 0 ≤ w ∧ w < 90) (h1' : 0 ≤ wide ∧ wide < 12) (h2' : 0 ≤ high ∧ high < 12) (hb : nb box) (hB : ∀ β' ρ' ψ' σ' ω' ν' υ' η' h0' h1' h2' h3' ο', GS ρ' σ' η' h0' h1' h2' h3' ο' → B (β', ρ', ψ', σ', ω', ν', υ', η', h0', h1', h2', h3', ο', 1, t + 1)) : wp_L_law_869 Q L xs B K β ρ ψ σ ω ν υ η h0 h1 h2 h3 ο t box := by
  obtain ⟨hI, hr, hH, hT⟩ := hG
  refine ⟨Or.inl ⟨rr_rem _ _, R_lit _ (by decide)⟩, fun _ => ?_, fun _ => hB _ _ _ _ _ _ _ _ _ _ _ _ _ ⟨hI, hr, hH, hT⟩⟩
  exact q_refused hI hr.1 hr.2 hb (fun β' ψ' ω' ν' υ' => c1 (hB _ _ _ _ _ _ _ _ _ _ _ _ _ ⟨hI, hr, hH, hT⟩))
theorem l_847 {Q : Int → Prop} {L : Nat} {xs : Nat → Int32} {B : jx_St × jx_St × jx_St × jx_St × jx_St × jx_St × jx_St × jx_St × jx_St × jx_St × jx_St × jx_St × jx_St × Int × Int → Prop} {K : jx_St × jx_St × jx_St × jx_St × jx_St × jx_St × jx_St × jx_St × jx_St × jx_St × jx_St × jx_St × jx_St × Int → Prop} {β ρ ψ σ ω ν υ η h0 h1 h2 h3 ο : jx_St} {t v w wide high box : Int} (hG : GS ρ σ η h0 h1 h2 h3 ο) (ht : 0 ≤ t ∧ t < 30) (hv : 0 ≤ v ∧ v < 90) (hw : 0 ≤ w ∧ w < 90) (h1' : 0 ≤ wide ∧ wide < 12) (h2' : 0 ≤ high ∧ high < 12) (hb : nb box) (hB : ∀ β' ρ' ψ' σ' ω' ν' υ' η' h0' h1' h2' h3' ο', GS ρ' σ' η' h0' h1' h2' h3' ο' → B (β', ρ', ψ', σ', ω', ν', υ', η', h0', h1', h2', h3', ο', 1, t + 1)) : wp_L_law_847 Q L xs B K β ρ ψ σ ω ν υ η h0 h1 h2 h3 ο t v w wide high box := by
  refine ⟨Or.inl ⟨rr_rem _ _, R_lit _ (by decide)⟩, fun _ => ?_, fun _ => l_869 hG ht hv hw h1' h2' hb hB⟩
  obtain ⟨hI, hr, hH, hT⟩ := hG
  exact q_isAhead hI hr hH ⟨hw.1, by omega⟩ ⟨hv.1, by omega⟩ ⟨h2'.1, by omega⟩ ⟨h1'.1, by omega⟩ (fun ρ' ψ' σ' ω' ν' υ' η' t0 t1 t2 t3 i1 i2 i3 => c1 (l_869 ⟨i1, i2, i3, hT⟩ ht hv hw h1' h2' hb hB))
theorem l_823 {Q : Int → Prop} {L : Nat} {xs : Nat → Int32} {B : jx_St × jx_St × jx_St × jx_St × jx_St × jx_St × jx_St × jx_St × jx_St × jx_St × jx_St × jx_St × jx_St × Int × Int → Prop} {K : jx_St × jx_St × jx_St × jx_St × jx_St × jx_St × jx_St × jx_St × jx_St × jx_St × jx_St × jx_St × jx_St × Int → Prop} {β ρ ψ σ ω ν υ η h0 h1 h2 h3 ο : jx_St} {t v w wide high box : Int} (hG : GS ρ σ η h0 h1 h2 h3 ο) (ht : 0 ≤ t ∧ t < 30) (hv : 0 ≤ v ∧ v < 90) (hw : 0 ≤ w ∧ w < 90) (h1' : 0 ≤ wide ∧ wide < 12) (h2' : 0 ≤ high ∧ high < 12) (hb : nb box) (hB : ∀ β' ρ' ψ' σ' ω' ν' υ' η' h0' h1' h2' h3' ο', GS ρ' σ' η' h0' h1' h2' h3' ο' → B (β', ρ', ψ', σ', ω', ν', υ', η', h0', h1', h2', h3', ο', 1, t + 1)) : wp_L_law_823 Q L xs B K β ρ ψ σ ω ν υ η h0 h1 h2 h3 ο t v w wide high box := by
  refine ⟨Or.inl ⟨rr_rem _ _, R_lit _ (by decide)⟩, fun _ => ?_, fun _ => l_847 hG ht hv hw h1' h2' hb hB⟩
  exact q_isSeen hG.1 ⟨hw.1, by omega⟩ ⟨hv.1, by omega⟩ ⟨by omega, by omega⟩ ⟨h2'.1, by omega⟩ (fun β' ψ' => c1 (l_847 hG ht hv hw h1' h2' hb hB))
theorem l_794 {Q : Int → Prop} {L : Nat} {xs : Nat → Int32} {B : jx_St × jx_St × jx_St × jx_St × jx_St × jx_St × jx_St × jx_St × jx_St × jx_St × jx_St × jx_St × jx_St × Int × Int → Prop} {K : jx_St × jx_St × jx_St × jx_St × jx_St × jx_St × jx_St × jx_St × jx_St × jx_St × jx_St × jx_St × jx_St × Int → Prop} {β ρ ψ σ ω ν υ η h0 h1 h2 h3 ο : jx_St} {t v w wide high box : Int} (hG : GS ρ σ η h0 h1 h2 h3 ο) (ht : 0 ≤ t ∧ t < 30) (hv : 0 ≤ v ∧ v < 90) (hw : 0 ≤ w ∧ w < 90) (h1' : 0 ≤ wide ∧ wide < 12) (h2' : 0 ≤ high ∧ high < 12) (hb : nb box) {its : Int} (hi : jx_R its ∧ (its < 0 → its = -1000002)) (hB : ∀ β' ρ' ψ' σ' ω' ν' υ' η' h0' h1' h2' h3' ο', GS ρ' σ' η' h0' h1' h2' h3' ο' → B (β', ρ', ψ', σ', ω', ν', υ', η', h0', h1', h2', h3', ο', 1, t + 1)) : wp_L_law_794 Q L xs B K β ρ ψ σ ω ν υ η h0 h1 h2 h3 ο 1 t v w wide high box its := by
  have h810 : wp_L_law_810 Q L xs B K β ρ ψ σ ω ν υ η h0 h1 h2 h3 ο t v w wide high box := by
    refine ⟨rr_rem _ _, fun _ => l_823 hG ht hv hw h1' h2' hb hB, fun _ => ?_⟩
    exact q_isTree hG.1 (fun ψ' => c1 (l_823 hG ht hv hw h1' h2' hb hB))
  exact c1 ⟨hi.1, fun z => ce (hi.2 z) h810, fun _ => h810⟩
theorem top_R {σ : jx_St} (hI : Inv σ) : jx_R (σ 2 (σ 7 0) + 1) ∧ (σ 2 (σ 7 0) + 1 < 0 → σ 2 (σ 7 0) + 1 = -1000002) := by
  have := hI.1.1.1.2
  have := hI.1.1.2.1
  exact ⟨jx_inR (by omega) (by omega), fun z => absurd z (by omega)⟩
theorem ref_R : jx_R (-1000002) ∧ ((-1000002 : Int) < 0 → (-1000002 : Int) = -1000002) := ⟨R_lit _ (by decide), fun _ => rfl⟩
theorem l_300 {Q : Int → Prop} {L : Nat} {xs : Nat → Int32} {B : jx_St × jx_St × jx_St × jx_St × jx_St × jx_St × jx_St × jx_St × jx_St × jx_St × jx_St × jx_St × jx_St × Int × Int → Prop} {K : jx_St × jx_St × jx_St × jx_St × jx_St × jx_St × jx_St × jx_St × jx_St × jx_St × jx_St × jx_St × jx_St × Int → Prop} {β ρ ψ σ ω ν υ η h0 h1 h2 h3 ο : jx_St} {t v w wide high box : Int} (hG : GS ρ σ η h0 h1 h2 h3 ο) (ht : 0 ≤ t ∧ t < 30) (hv : 0 ≤ v ∧ v < 90) (hw : 0 ≤ w ∧ w < 90) (h1' : 0 ≤ wide ∧ wide < 12) (h2' : 0 ≤ high ∧ high < 12) (hb : nb box) {n th' : Int} (hn : n = nBx σ) (hth : (th' = 0 ∧ σ 0 box = -1) ∨ (th' = 1 ∧ σ 0 box ≠ -1)) (hB : ∀ β' ρ' ψ' σ' ω' ν' υ' η' h0' h1' h2' h3' ο', GS ρ' σ' η' h0' h1' h2' h3' ο' → B (β', ρ', ψ', σ', ω', ν', υ', η', h0', h1', h2', h3', ο', 1, t + 1)) : wp_L_law_300 Q L xs B K β ρ ψ σ ω ν υ η h0 h1 h2 h3 ο t v w wide high box n th' := by
  obtain ⟨hI, hr, hH, hT⟩ := id hG
  refine q_lesser (R_lit _ (by decide)) (jx_inR (by omega) (by omega)) (q_lesser (R_lit _ (by decide)) (jx_inR (by omega) (by omega)) ?_)
  have hW : Wn v w (min 99 (v + wide)) (min 99 (w + high)) := ⟨hv.1, hw.1, by omega, by omega, by omega, by omega⟩
  rcases hth with ⟨e, hx⟩ | ⟨e, hx⟩
  · subst e
    subst hn
    refine q_put hI hH hb hW hx (fun ρ' ψ' τ η' t0 t1 t2 t3 g _ hR => c0 ?_)
    have hτ := g.1
    have hvb := vb_bo hW
    obtain ⟨s0, s1, s2, s3⟩ := bs_bo_w hW
    have hτ0 : τ 0 box = bo v w (min 99 (v + wide)) (min 99 (w + high)) := by rw [g.2.1]; exact jx_su_eq
    have hne : bo v w (min 99 (v + wide)) (min 99 (w + high)) ≠ -1 := by have := hvb.1; omega
    have hτn : τ 0 box ≠ -1 := by rw [hτ0]; exact hne
    refine q_count hτ (R_lit 1 (by decide)) (fun ψ1 => ce rfl (q_count hτ (R_lit 0 (by decide)) (fun ψ2 => ce (show nBx τ = nBx σ + 1 from nBx_put hb hx hne g.2.1) (q_boxOf hτ hb.R (R_lit 0 (by decide)) (fun ψ3 => ce (by rw [aB_side hb hτn (by decide) (by decide), hτ0]; exact s0) (q_boxOf hτ hb.R (R_lit 3 (by decide)) (fun ψ4 => q_lesser (R_lit _ (by decide)) (jx_inR (by omega) (by omega)) (ce (by rw [aB_side hb hτn (by decide) (by decide), hτ0]; exact s3) ?_))))))))
    exact l_794 ⟨hτ, ⟨g.2.2.2.1.1, by have := g.2.2.2.1.2; omega⟩, hR.1, hT⟩ ht hv hw h1' h2' hb (top_R hτ) hB
  · subst e
    exact q_put_there hI hb hW hx (c1 (ce rfl (l_794 hG ht hv hw h1' h2' hb ref_R hB)))
theorem l_415 {Q : Int → Prop} {L : Nat} {xs : Nat → Int32} {B : jx_St × jx_St × jx_St × jx_St × jx_St × jx_St × jx_St × jx_St × jx_St × jx_St × jx_St × jx_St × jx_St × Int × Int → Prop} {K : jx_St × jx_St × jx_St × jx_St × jx_St × jx_St × jx_St × jx_St × jx_St × jx_St × jx_St × jx_St × jx_St × Int → Prop} {β ρ ψ σ ω ν υ η h0 h1 h2 h3 ο : jx_St} {t v w wide high box : Int} (hG : GS ρ σ η h0 h1 h2 h3 ο) (ht : 0 ≤ t ∧ t < 30) (hv : 0 ≤ v ∧ v < 90) (hw : 0 ≤ w ∧ w < 90) (h1' : 0 ≤ wide ∧ wide < 12) (h2' : 0 ≤ high ∧ high < 12) (hb : nb box) {n th' : Int} (hn : n = nBx σ) (hth : (th' = 0 ∧ σ 0 box = -1) ∨ (th' = 1 ∧ σ 0 box ≠ -1)) (hB : ∀ β' ρ' ψ' σ' ω' ν' υ' η' h0' h1' h2' h3' ο', GS ρ' σ' η' h0' h1' h2' h3' ο' → B (β', ρ', ψ', σ', ω', ν', υ', η', h0', h1', h2', h3', ο', 1, t + 1)) : wp_L_law_415 Q L xs B K β ρ ψ σ ω ν υ η h0 h1 h2 h3 ο t v w wide high box n th' := by
  obtain ⟨hI, hr, hH, hT⟩ := id hG
  rcases hth with ⟨e, hx⟩ | ⟨e, hx⟩
  · subst e
    exact q_take_no hI hb hx (c0 (ce rfl (l_794 hG ht hv hw h1' h2' hb ref_R hB)))
  · subst e
    subst hn
    refine q_take hI hH hb hx (fun ρ' ψ' τ η' t0 t1 t2 t3 g hR => c1 ?_)
    have hτ := g.1
    have hτ0 : τ 0 box = -1 := by rw [g.2.1]; exact jx_su_eq
    have ho : σ 0 = jx_su τ 0 box (σ 0 box) 0 := by
      funext i
      rw [jx_su_same]
      by_cases z : i = box
      · rw [if_pos z, z]
      · rw [if_neg z, g.2.1, jx_su_same, if_neg z]
    have hnb : nBx σ = nBx τ + 1 := nBx_put (v := σ 0 box) hb hτ0 hx ho
    refine q_count hτ (R_lit 1 (by decide)) (fun ψ1 => ce rfl (q_count hτ (R_lit 0 (by decide)) (fun ψ2 => ce (show nBx τ = nBx σ - 1 by omega) (q_boxOf hτ hb.R (R_lit 0 (by decide)) (fun ψ3 => ce ((aB_0 hb).mpr hτ0) ?_)))))
    exact l_794 ⟨hτ, g.2.2.1, hR.1, hT⟩ ht hv hw h1' h2' hb (top_R hτ) hB
theorem l_undo {Q : Int → Prop} {L : Nat} {xs : Nat → Int32} {B : jx_St × jx_St × jx_St × jx_St × jx_St × jx_St × jx_St × jx_St × jx_St × jx_St × jx_St × jx_St × jx_St × Int × Int → Prop} {K : jx_St × jx_St × jx_St × jx_St × jx_St × jx_St × jx_St × jx_St × jx_St × jx_St × jx_St × jx_St × jx_St × Int → Prop} {β ρ ψ σ ω ν υ η h0 h1 h2 h3 ο : jx_St} {t v w wide high box : Int} (hG : GS ρ σ η h0 h1 h2 h3 ο) (ht : 0 ≤ t ∧ t < 30) (hv : 0 ≤ v ∧ v < 90) (hw : 0 ≤ w ∧ w < 90) (h1' : 0 ≤ wide ∧ wide < 12) (h2' : 0 ≤ high ∧ high < 12) (hb : nb box) (hB : ∀ β' ρ' ψ' σ' ω' ν' υ' η' h0' h1' h2' h3' ο', GS ρ' σ' η' h0' h1' h2' h3' ο' → B (β', ρ', ψ', σ', ω', ν', υ', η', h0', h1', h2', h3', ο', 1, t + 1)) : wp_B_count (fun r755 sS_755 => wp_B_undo (fun r761 sT_761 sH_761 => jx_R r755 ∧ ((r755 = 0 → wp_L_law_782 Q L xs B K β ρ sS_755 sT_761 ω ν υ sH_761 h0 h1 h2 h3 ο t v w wide high box r761 r761 (-1000002)) ∧ (¬ r755 = 0 → wp_L_law_782 Q L xs B K β ρ sS_755 sT_761 ω ν υ sH_761 h0 h1 h2 h3 ο t v w wide high box r761 r761 (r755 - 1)))) β σ η h0 h1 h2 h3) β ρ ψ σ η ο 8 := by
  obtain ⟨hI, hr, hH, hT⟩ := id hG
  have k0 := hH.2.1
  refine q_count hI (R_lit 8 (by decide)) (fun ψ1 => ?_)
  rw [show aK ρ σ η ο 8 = η 2 0 from rfl]
  by_cases c : η 2 0 = 0
  · refine q_undo_no c ⟨by rw [c]; exact R_lit 0 (by decide), fun _ => ce rfl ?_, fun z => absurd c z⟩
    exact l_794 hG ht hv hw h1' h2' hb ref_R hB
  · refine q_undo hH c (fun σ' hE => ⟨jx_inR (by omega) (by omega), fun z => absurd z c, fun _ => ce rfl ?_⟩)
    exact l_794 ⟨inv_er (hH.top c) hE, hr, (hH.less c).1, hT⟩ ht hv hw h1' h2' hb ⟨jx_inR (by omega) (by omega), fun z => absurd z (by omega)⟩ hB
theorem Tl.of {o o' : jx_St} {l : List Int} (h : Tl o l) (e0 : o' 0 = o 0) (e1 : o' 1 = o 1) : Tl o' l := by
  unfold Tl at h ⊢
  rw [e0, e1]
  exact h
theorem l_728 {Q : Int → Prop} {L : Nat} {xs : Nat → Int32} {B : jx_St × jx_St × jx_St × jx_St × jx_St × jx_St × jx_St × jx_St × jx_St × jx_St × jx_St × jx_St × jx_St × Int × Int → Prop} {K : jx_St × jx_St × jx_St × jx_St × jx_St × jx_St × jx_St × jx_St × jx_St × jx_St × jx_St × jx_St × jx_St × Int → Prop} {β ρ ψ σ ω ν υ η h0 h1 h2 h3 ο : jx_St} {t v w wide high box : Int} (hG : GS ρ σ η h0 h1 h2 h3 ο) (ht : 0 ≤ t ∧ t < 30) (hv : 0 ≤ v ∧ v < 90) (hw : 0 ≤ w ∧ w < 90) (h1' : 0 ≤ wide ∧ wide < 12) (h2' : 0 ≤ high ∧ high < 12) (hb : nb box) {its a b : Int} (hab : a = b) (hx : σ 0 box ≠ -1) (hi : jx_R its ∧ (its < 0 → its = -1000002)) (hB : ∀ β' ρ' ψ' σ' ω' ν' υ' η' h0' h1' h2' h3' ο', GS ρ' σ' η' h0' h1' h2' h3' ο' → B (β', ρ', ψ', σ', ω', ν', υ', η', h0', h1', h2', h3', ο', 1, t + 1)) : wp_L_law_728 Q L xs B K β ρ ψ σ ω ν υ η h0 h1 h2 h3 ο t v w wide high box its a b := by
  refine ce hab (q_boxOf hG.1 hb.R (R_lit 0 (by decide)) (fun ψ1 => ⟨?_, fun z => absurd ((aB_0 hb).mp z) hx, fun _ => l_794 hG ht hv hw h1' h2' hb hi hB⟩))
  rw [aB_side hb hx (Int.le_refl 0) (by decide)]
  exact Or.inl ⟨bs_R _ _, R_lit _ (by decide)⟩
theorem l_682 {Q : Int → Prop} {L : Nat} {xs : Nat → Int32} {B : jx_St × jx_St × jx_St × jx_St × jx_St × jx_St × jx_St × jx_St × jx_St × jx_St × jx_St × jx_St × jx_St × Int × Int → Prop} {K : jx_St × jx_St × jx_St × jx_St × jx_St × jx_St × jx_St × jx_St × jx_St × jx_St × jx_St × jx_St × jx_St × Int → Prop} {β ρ ψ σ ω ν υ η h0 h1 h2 h3 ο : jx_St} {t v w wide high box : Int} (hG : GS ρ σ η h0 h1 h2 h3 ο) (ht : 0 ≤ t ∧ t < 30) (hv : 0 ≤ v ∧ v < 90) (hw : 0 ≤ w ∧ w < 90) (h1' : 0 ≤ wide ∧ wide < 12) (h2' : 0 ≤ high ∧ high < 12) (hb : nb box) {n th' : Int} (hn : n = nBx σ) (hth : (th' = 0 ∧ σ 0 box = -1) ∨ (th' = 1 ∧ σ 0 box ≠ -1)) (hTl : Tl ο (Wt box v w (v + 3) (w + 4))) (hR : exm (chr ο) (ο 1 0) 60 0 (dF σ) 0 = if dF σ box ≠ 0 then (0, 3, -1, 0) else (ο 1 0, 0, 0, 1)) (hB : ∀ β' ρ' ψ' σ' ω' ν' υ' η' h0' h1' h2' h3' ο', GS ρ' σ' η' h0' h1' h2' h3' ο' → B (β', ρ', ψ', σ', ω', ν', υ', η', h0', h1', h2', h3', ο', 1, t + 1)) : wp_L_law_682 Q L xs B K β ρ ψ σ ω ν υ η h0 h1 h2 h3 ο t v w wide high box n th' 1 := by
  obtain ⟨hI, hr, hH, hT⟩ := id hG
  have hb0 := hb.1
  have hb1 := hb.2
  rcases hth with ⟨e, hx⟩ | ⟨e, hx⟩
  · subst e
    subst hn
    refine q_play_one hI hH ⟨hb0, by omega⟩ ⟨hv.1, by omega⟩ ⟨hw.1, by omega⟩ hTl hx (fun ρ' ψ' τ η' t0 t1 t2 t3 o' q0 q1 g hRc => c1 (c0 ?_))
    have hτ := g.1
    have hWn : Wn v w (v + 3) (w + 4) := ⟨hv.1, hw.1, by omega, by omega, by omega, by omega⟩
    have hτ0 : τ 0 box = bo v w (v + 3) (w + 4) := by rw [g.2.1]; exact jx_su_eq
    have hne : bo v w (v + 3) (w + 4) ≠ -1 := by have := (vb_bo hWn).1; omega
    have hT' : Txo o' := by unfold Txo at hT ⊢; rw [q0, q1]; exact hT
    refine ce rfl (q_count hτ (R_lit 0 (by decide)) (fun ψ1 => c0 ?_))
    exact l_728 ⟨hτ, ⟨g.2.2.2.1.1, by have := g.2.2.2.1.2; omega⟩, hRc.1, hT'⟩ ht hv hw h1' h2' hb (nBx_put hb hx hne g.2.1) (by rw [hτ0]; exact hne) ⟨R_lit 1 (by decide), fun z => absurd z (by decide)⟩ hB
  · subst e
    subst hn
    have hd : dF σ box ≠ 0 := by unfold dF; rw [if_neg hx]; decide
    rw [if_pos hd] at hR
    refine q_play_no hI hT hR (show (3 : Int) ≠ 0 by decide) (fun o' q0 q1 => c1 (c1 ?_))
    have hT' : Txo o' := by unfold Txo at hT ⊢; rw [q0, q1]; exact hT
    have hG' : GS ρ σ η h0 h1 h2 h3 o' := ⟨hI, hr, hH, hT'⟩
    exact ce rfl (q_count hI (R_lit 0 (by decide)) (fun ψ1 => c1 (l_728 hG' ht hv hw h1' h2' hb rfl hx ref_R hB)))
theorem l_621 {Q : Int → Prop} {L : Nat} {xs : Nat → Int32} {B : jx_St × jx_St × jx_St × jx_St × jx_St × jx_St × jx_St × jx_St × jx_St × jx_St × jx_St × jx_St × jx_St × Int × Int → Prop} {K : jx_St × jx_St × jx_St × jx_St × jx_St × jx_St × jx_St × jx_St × jx_St × jx_St × jx_St × jx_St × jx_St × Int → Prop} {β ρ ψ σ ω ν υ η h0 h1 h2 h3 ο : jx_St} {t v w wide high box : Int} (hG : GS ρ σ η h0 h1 h2 h3 ο) (ht : 0 ≤ t ∧ t < 30) (hv : 0 ≤ v ∧ v < 90) (hw : 0 ≤ w ∧ w < 90) (h1' : 0 ≤ wide ∧ wide < 12) (h2' : 0 ≤ high ∧ high < 12) (hb : nb box) {n th' re : Int} (hn : n = nBx σ) (hth : (th' = 0 ∧ re = -1000004 ∧ σ 0 box = -1) ∨ (th' = 1 ∧ re = 3 ∧ σ 0 box ≠ -1)) (hTl : Tl ο (Wt box v w (v + 3) (w + 4))) (hB : ∀ β' ρ' ψ' σ' ω' ν' υ' η' h0' h1' h2' h3' ο', GS ρ' σ' η' h0' h1' h2' h3' ο' → B (β', ρ', ψ', σ', ω', ν', υ', η', h0', h1', h2', h3', ο', 1, t + 1)) : wp_L_law_621 Q L xs B K β ρ ψ σ ω ν υ η h0 h1 h2 h3 ο t v w wide high box n th' (prV σ) re 1 := by
  obtain ⟨hI, hr, hH, hT⟩ := id hG
  have hb0 := hb.1
  have hb1 := hb.2
  have hR : ∀ o', Tl o' (Wt box v w (v + 3) (w + 4)) → exm (chr o') (o' 1 0) 60 0 (dF σ) 0 = if dF σ box ≠ 0 then (0, 3, -1, 0) else (o' 1 0, 0, 0, 1) := fun o' h => by
    rw [tl_chr h, h.1]
    exact Wt_exm ⟨hb0, by omega⟩ ⟨hv.1, by omega⟩ ⟨hw.1, by omega⟩
  have tx : ∀ o', o' 0 = ο 0 → o' 1 = ο 1 → Txo o' := fun o' e0 e1 => by unfold Txo at hT ⊢; rw [e0, e1]; exact hT
  rcases hth with ⟨e1, e2, hx⟩ | ⟨e1, e2, hx⟩
  · subst e1
    subst e2
    have hd : ¬ dF σ box ≠ 0 := by unfold dF; rw [if_pos hx]; decide
    refine c1 (q_fault hI hT (by decide) (hR ο hTl) (fun o1 p0 p1 => ce (by rw [if_neg hd]; rfl) ?_))
    have t1 := hTl.of p0 p1
    refine q_fault hI (tx o1 p0 p1) (by decide) (hR o1 t1) (fun o2 q0 q1 => c0 (ce (by rw [if_neg hd]; rfl) ?_))
    have t2 := t1.of q0 q1
    refine q_fault hI (tx o2 (q0.trans p0) (q1.trans p1)) (by decide) (hR o2 t2) (fun o3 r0 r1 => ce (by rw [if_neg hd]; rfl) (q_print hI (fun ψ1 => ?_)))
    have t3 := t2.of r0 r1
    have hT3 := tx o3 (r0.trans (q0.trans p0)) (r1.trans (q1.trans p1))
    rw [lc_same]
    exact c0 (l_682 ⟨hI, hr, hH, hT3⟩ ht hv hw h1' h2' hb hn (Or.inl ⟨rfl, hx⟩) t3 (hR o3 t3) hB)
  · subst e1
    subst e2
    have hd : dF σ box ≠ 0 := by unfold dF; rw [if_neg hx]; decide
    refine c1 (q_fault hI hT (by decide) (hR ο hTl) (fun o1 p0 p1 => ce (by rw [if_pos hd]; rfl) ?_))
    have t1 := hTl.of p0 p1
    refine q_fault hI (tx o1 p0 p1) (by decide) (hR o1 t1) (fun o2 q0 q1 => c1 (ce (by rw [if_pos hd]; rfl) ?_))
    have t2 := t1.of q0 q1
    refine q_fault hI (tx o2 (q0.trans p0) (q1.trans p1)) (by decide) (hR o2 t2) (fun o3 r0 r1 => ce (by rw [if_pos hd]; rfl) (q_print hI (fun ψ1 => ?_)))
    have t3 := t2.of r0 r1
    have hT3 := tx o3 (r0.trans (q0.trans p0)) (r1.trans (q1.trans p1))
    rw [lc_same]
    exact c0 (l_682 ⟨hI, hr, hH, hT3⟩ ht hv hw h1' h2' hb hn (Or.inr ⟨rfl, hx⟩) t3 (hR o3 t3) hB)
theorem ty_R {n : Nat} {o : jx_St} {X Y : Prop} (he : o 1 0 = (n : Int)) (hn : n ≤ 60) (h : Y) : jx_R (o 1 0 + 1) ∧ ((o 1 0 + 1 ≤ 0 → X) ∧ (¬ o 1 0 + 1 ≤ 0 → Y)) := ⟨jx_inR (by omega) (by omega), fun z => absurd z (by omega), fun _ => h⟩
theorem l_503 {Q : Int → Prop} {L : Nat} {xs : Nat → Int32} {B : jx_St × jx_St × jx_St × jx_St × jx_St × jx_St × jx_St × jx_St × jx_St × jx_St × jx_St × jx_St × jx_St × Int × Int → Prop} {K : jx_St × jx_St × jx_St × jx_St × jx_St × jx_St × jx_St × jx_St × jx_St × jx_St × jx_St × jx_St × jx_St × Int → Prop} {β ρ ψ σ ω ν υ η h0 h1 h2 h3 ο : jx_St} {t v w wide high box : Int} (hG : GS ρ σ η h0 h1 h2 h3 ο) (ht : 0 ≤ t ∧ t < 30) (hv : 0 ≤ v ∧ v < 90) (hw : 0 ≤ w ∧ w < 90) (h1' : 0 ≤ wide ∧ wide < 12) (h2' : 0 ≤ high ∧ high < 12) (hb : nb box) {n th' re : Int} (hn : n = nBx σ) (hth : (th' = 0 ∧ re = -1000004 ∧ σ 0 box = -1) ∨ (th' = 1 ∧ re = 3 ∧ σ 0 box ≠ -1)) (hB : ∀ β' ρ' ψ' σ' ω' ν' υ' η' h0' h1' h2' h3' ο', GS ρ' σ' η' h0' h1' h2' h3' ο' → B (β', ρ', ψ', σ', ω', ν', υ', η', h0', h1', h2', h3', ο', 1, t + 1)) : wp_L_law_503 Q L xs B K β ρ ψ σ ω ν υ η h0 h1 h2 h3 ο t v w wide high box n th' (prV σ) re := by
  obtain ⟨hI, hr, hH, hT⟩ := id hG
  have hb0 := hb.1
  have hb1 := hb.2
  have hT0 := hT.1
  have hT1 := hT.2.1
  have d1 := Dg_len (n := box)
  have d2 := Dg_len (n := v)
  have d3 := Dg_len (n := w)
  have d4 := Dg_len (n := v + 3)
  have d5 := Dg_len (n := w + 4)
  refine ⟨jx_inR (by omega) (by omega), fun z => absurd z (by omega), fun _ => ?_⟩
  have z0 := Tl.nil ο
  have lz := z0.1
  generalize jx_su ο 1 0 0 = o0 at z0 lz
  have lz' : o0 1 0 = 0 := lz
  refine q_type (by omega) (by omega) (by decide) (fun o1 g1 => ce (by omega) ?_)
  have y1 := z0.snoc g1
  refine q_types hI y1 (by simp) ⟨hb0, by omega⟩ (fun ψ1 o2 y2 => c1 ?_)
  have e2 := y2.1
  simp only [List.length_append, List.length_cons, List.length_nil] at e2
  refine q_type (by omega) (by omega) (by decide) (fun o3 g3 => ty_R y2.1 (by simp only [List.length_append, List.length_cons, List.length_nil]; omega) ?_)
  have y3 := y2.snoc g3
  refine q_types hI y3 (by simp only [List.length_append, List.length_cons, List.length_nil]; omega) ⟨hv.1, by omega⟩ (fun ψ2 o4 y4 => c1 ?_)
  have e4 := y4.1
  simp only [List.length_append, List.length_cons, List.length_nil] at e4
  refine q_type (by omega) (by omega) (by decide) (fun o5 g5 => ty_R y4.1 (by simp only [List.length_append, List.length_cons, List.length_nil]; omega) ?_)
  have y5 := y4.snoc g5
  refine q_types hI y5 (by simp only [List.length_append, List.length_cons, List.length_nil]; omega) ⟨hw.1, by omega⟩ (fun ψ3 o6 y6 => c1 ?_)
  have e6 := y6.1
  simp only [List.length_append, List.length_cons, List.length_nil] at e6
  refine q_type (by omega) (by omega) (by decide) (fun o7 g7 => ty_R y6.1 (by simp only [List.length_append, List.length_cons, List.length_nil]; omega) ?_)
  have y7 := y6.snoc g7
  refine q_types hI y7 (by simp only [List.length_append, List.length_cons, List.length_nil]; omega) ⟨by omega, by omega⟩ (fun ψ4 o8 y8 => c1 ?_)
  have e8 := y8.1
  simp only [List.length_append, List.length_cons, List.length_nil] at e8
  refine q_type (by omega) (by omega) (by decide) (fun o9 g9 => ty_R y8.1 (by simp only [List.length_append, List.length_cons, List.length_nil]; omega) ?_)
  have y9 := y8.snoc g9
  refine q_types hI y9 (by simp only [List.length_append, List.length_cons, List.length_nil]; omega) ⟨by omega, by omega⟩ (fun ψ5 oa ya => c1 ?_)
  have ea := ya.1
  simp only [List.length_append, List.length_cons, List.length_nil] at ea
  refine q_type (by omega) (by omega) (by decide) (fun ob gb => ty_R ya.1 (by simp only [List.length_append, List.length_cons, List.length_nil]; omega) ?_)
  have yb := ya.snoc gb
  have yw : Tl ob (Wt box v w (v + 3) (w + 4)) := by
    have el : Wt box v w (v + 3) (w + 4) = ([] ++ [43] ++ Dg box ++ [44] ++ Dg v ++ [44] ++ Dg w ++ [44] ++ Dg (v + 3) ++ [44] ++ Dg (w + 4)) ++ [59] := by unfold Wt; simp [List.append_assoc]
    rw [el]
    exact yb
  have hX : Txo ob := yw.txo (by have := Wt_len (b := box) (v := v) (w := w) (x := v + 3) (y := w + 4); omega) (fun k hk => Wt_mem ⟨hb0, by omega⟩ ⟨hv.1, by omega⟩ ⟨hw.1, by omega⟩ ⟨by omega, by omega⟩ ⟨by omega, by omega⟩ hk)
  exact l_621 ⟨hI, hr, hH, hX⟩ ht hv hw h1' h2' hb hn hth yw hB
theorem l_486 {Q : Int → Prop} {L : Nat} {xs : Nat → Int32} {B : jx_St × jx_St × jx_St × jx_St × jx_St × jx_St × jx_St × jx_St × jx_St × jx_St × jx_St × jx_St × jx_St × Int × Int → Prop} {K : jx_St × jx_St × jx_St × jx_St × jx_St × jx_St × jx_St × jx_St × jx_St × jx_St × jx_St × jx_St × jx_St × Int → Prop} {β ρ ψ σ ω ν υ η h0 h1 h2 h3 ο : jx_St} {t v w wide high box : Int} (hG : GS ρ σ η h0 h1 h2 h3 ο) (ht : 0 ≤ t ∧ t < 30) (hv : 0 ≤ v ∧ v < 90) (hw : 0 ≤ w ∧ w < 90) (h1' : 0 ≤ wide ∧ wide < 12) (h2' : 0 ≤ high ∧ high < 12) (hb : nb box) {n th' : Int} (hn : n = nBx σ) (hth : (th' = 0 ∧ σ 0 box = -1) ∨ (th' = 1 ∧ σ 0 box ≠ -1)) (hB : ∀ β' ρ' ψ' σ' ω' ν' υ' η' h0' h1' h2' h3' ο', GS ρ' σ' η' h0' h1' h2' h3' ο' → B (β', ρ', ψ', σ', ω', ν', υ', η', h0', h1', h2', h3', ο', 1, t + 1)) : wp_L_law_486 Q L xs B K β ρ ψ σ ω ν υ η h0 h1 h2 h3 ο t v w wide high box n th' := by
  refine q_print hG.1 (fun ψ1 => ?_)
  rcases hth with ⟨e, hx⟩ | ⟨e, hx⟩
  · subst e
    exact c0 (l_503 hG ht hv hw h1' h2' hb hn (Or.inl ⟨rfl, rfl, hx⟩) hB)
  · subst e
    exact c1 (l_503 hG ht hv hw h1' h2' hb hn (Or.inr ⟨rfl, rfl, hx⟩) hB)
theorem l_231 {Q : Int → Prop} {L : Nat} {xs : Nat → Int32} {B : jx_St × jx_St × jx_St × jx_St × jx_St × jx_St × jx_St × jx_St × jx_St × jx_St × jx_St × jx_St × jx_St × Int × Int → Prop} {K : jx_St × jx_St × jx_St × jx_St × jx_St × jx_St × jx_St × jx_St × jx_St × jx_St × jx_St × jx_St × jx_St × Int → Prop} {β ρ ψ σ ω ν υ η h0 h1 h2 h3 ο : jx_St} {t v w wide high box : Int} (hG : GS ρ σ η h0 h1 h2 h3 ο) (ht : 0 ≤ t ∧ t < 30) (hv : 0 ≤ v ∧ v < 90) (hw : 0 ≤ w ∧ w < 90) (h1' : 0 ≤ wide ∧ wide < 12) (h2' : 0 ≤ high ∧ high < 12) (hb : nb box) {n th' k : Int} (hn : n = nBx σ) (hth : (th' = 0 ∧ σ 0 box = -1) ∨ (th' = 1 ∧ σ 0 box ≠ -1)) (hk : jx_R k) (hB : ∀ β' ρ' ψ' σ' ω' ν' υ' η' h0' h1' h2' h3' ο', GS ρ' σ' η' h0' h1' h2' h3' ο' → B (β', ρ', ψ', σ', ω', ν', υ', η', h0', h1', h2', h3', ο', 1, t + 1)) : wp_L_law_231 Q L xs B K β ρ ψ σ ω ν υ η h0 h1 h2 h3 ο t v w wide high box n th' k := by
  have a := l_300 (Q := Q) (L := L) (xs := xs) (K := K) (β := β) (ψ := ψ) (ω := ω) (ν := ν) (υ := υ) hG ht hv hw h1' h2' hb hn hth hB
  have b := l_415 (Q := Q) (L := L) (xs := xs) (K := K) (β := β) (ψ := ψ) (ω := ω) (ν := ν) (υ := υ) hG ht hv hw h1' h2' hb hn hth hB
  have c := l_486 (Q := Q) (L := L) (xs := xs) (K := K) (β := β) (ψ := ψ) (ω := ω) (ν := ν) (υ := υ) hG ht hv hw h1' h2' hb hn hth hB
  exact ⟨hk, fun _ => a, fun _ => a, fun _ => a, fun _ => a, fun _ => a, fun _ => a, fun _ => a, fun _ => a, fun _ => b, fun _ => b, fun _ => b, fun _ => b, fun _ => c, fun _ => c, fun _ => l_undo hG ht hv hw h1' h2' hb hB⟩
theorem l_209 {Q : Int → Prop} {L : Nat} {xs : Nat → Int32} {B : jx_St × jx_St × jx_St × jx_St × jx_St × jx_St × jx_St × jx_St × jx_St × jx_St × jx_St × jx_St × jx_St × Int × Int → Prop} {K : jx_St × jx_St × jx_St × jx_St × jx_St × jx_St × jx_St × jx_St × jx_St × jx_St × jx_St × jx_St × jx_St × Int → Prop} {β ρ ψ σ ω ν υ η h0 h1 h2 h3 ο : jx_St} {t v w wide high box : Int} (hG : GS ρ σ η h0 h1 h2 h3 ο) (ht : 0 ≤ t ∧ t < 30) (hv : 0 ≤ v ∧ v < 90) (hw : 0 ≤ w ∧ w < 90) (h1' : 0 ≤ wide ∧ wide < 12) (h2' : 0 ≤ high ∧ high < 12) (hb : nb box) {x n th' : Int} (hn : n = nBx σ) (hth : (th' = 0 ∧ σ 0 box = -1) ∨ (th' = 1 ∧ σ 0 box ≠ -1)) (hB : ∀ β' ρ' ψ' σ' ω' ν' υ' η' h0' h1' h2' h3' ο', GS ρ' σ' η' h0' h1' h2' h3' ο' → B (β', ρ', ψ', σ', ω', ν', υ', η', h0', h1', h2', h3', ο', 1, t + 1)) : wp_L_law_209 Q L xs B K β ρ ψ σ ω ν υ η h0 h1 h2 h3 ο t x v w wide high box n th' :=
  ⟨jx_inR (by omega) (by omega), fun _ => l_231 hG ht hv hw h1' h2' hb hn hth (R_lit 0 (by decide)) hB, fun _ => q_low (by decide) (by decide) (fun r r0 r1 => l_231 hG ht hv hw h1' h2' hb hn hth (jx_inR (by omega) (by omega)) hB)⟩
