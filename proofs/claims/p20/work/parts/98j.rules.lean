/-! ===== the property: what each call does ===== -/
def BE (σ : jx_St) (b v : Int) (ρ τ : jx_St) : Prop := σ 3 (dsc σ v 0 8 (σ 7 0)) < 4 → EZ σ b (dsc σ v 0 8 (σ 7 0)) ρ τ
theorem p_bringInE {Q : jx_St → jx_St → jx_St → Prop} {ρ ψ σ μ : jx_St} {b v : Int} (hI : Inv σ) (hA : Ag σ μ) (hb : nb b) (h0 : σ 0 b = -1) (hv : vb v) (h : ∀ ρ' ψ' τ, BR μ σ b v ρ' τ → BE σ b v ρ' τ → Q ρ' ψ' τ) : wp_C_bringIn Q ρ ψ σ b v := by
  have g1 := p_bringIn (Q := fun ρ' _ τ => BR μ σ b v ρ' τ) (ρ := ρ) (ψ := ψ) hI hA hb h0 hv (fun _ _ _ x => x)
  by_cases c : σ 3 (dsc σ v 0 8 (σ 7 0)) < 4
  · have g2 := easy_bringIn (Q := fun ρ' _ τ => EZ σ b (dsc σ v 0 8 (σ 7 0)) ρ' τ) (ρ := ρ) (ψ := ψ) hI hb h0 hv rfl c (fun _ _ _ x => x)
    exact cj_C_bringIn g1 g2 (fun ρ' ψ' τ x y => h ρ' ψ' τ x (fun _ => y))
  · exact p_bringIn hI hA hb h0 hv (fun ρ' ψ' τ x => h ρ' ψ' τ x (fun z => absurd z c))
theorem q_put_bad {Q : Int → jx_St → jx_St → jx_St → jx_St → jx_St → jx_St → jx_St → jx_St → Prop} {sB sC sS σ η h0 h1 h2 h3 : jx_St} {b x y z w : Int} (hn : ¬ (nb b ∧ Wn x y z w)) (rb : jx_R b) (rx : jx_R x) (ry : jx_R y) (rz : jx_R z) (rw' : jx_R w) (h : Q (-1000001) sC sS σ η h0 h1 h2 h3) : wp_B_put Q sB sC sS σ η h0 h1 h2 h3 b x y z w := by
  by_cases c : nb b
  · exact p_isBox_t c (c1 (p_isWindow_f (fun e => hn ⟨c, e⟩) rx ry rz rw' (c0 h)))
  · exact p_isBox_f c rb (c0 h)
theorem q_put_there {Q : Int → jx_St → jx_St → jx_St → jx_St → jx_St → jx_St → jx_St → jx_St → Prop} {sB sC sS σ η h0 h1 h2 h3 : jx_St} {b x y z w : Int} (hI : Inv σ) (hb : nb b) (hw : Wn x y z w) (hn : σ 0 b ≠ -1) (h : Q (-1000002) sC sS σ η h0 h1 h2 h3) : wp_B_put Q sB sC sS σ η h0 h1 h2 h3 b x y z w :=
  p_isBox_t hb (c1 (p_isWindow_t hw (c1 (p_has_t hI hb hn (c1 h)))))
theorem q_put {Q : Int → jx_St → jx_St → jx_St → jx_St → jx_St → jx_St → jx_St → jx_St → Prop} {sB sC sS σ η h0 h1 h2 h3 : jx_St} {b x y z w : Int} (hI : Inv σ) (hH : HI η h0 h1 h2 h3) (hb : nb b) (hw : Wn x y z w) (hn : σ 0 b = -1) (h : ∀ ρ ψ τ η' t0 t1 t2 t3, BR (gho σ) σ b (bo x y z w) ρ τ → BE σ b (bo x y z w) ρ τ → HR σ η h0 h1 h2 h3 η' t0 t1 t2 t3 → Q (τ 2 (τ 7 0) + 1) ρ ψ τ η' t0 t1 t2 t3) : wp_B_put Q sB sC sS σ η h0 h1 h2 h3 b x y z w :=
  p_isBox_t hb (c1 (p_isWindow_t hw (c1 (p_has_f hI hb hn (c0 (q_record hI hH (fun η' t0 t1 t2 t3 hR => p_of (p_bringInE hI (ag_gho σ) hb hn (vb_bo hw) (fun ρ ψ τ g1 g2 => p_height g1.1.1.1.1.1 (h ρ ψ τ η' t0 t1 t2 t3 g1 g2 hR))))))))))
theorem q_take_bad {Q : Int → jx_St → jx_St → jx_St → jx_St → jx_St → jx_St → jx_St → jx_St → Prop} {sB sC sS σ η h0 h1 h2 h3 : jx_St} {b : Int} (hn : ¬ nb b) (rb : jx_R b) (h : Q (-1000001) sC sS σ η h0 h1 h2 h3) : wp_B_take Q sB sC sS σ η h0 h1 h2 h3 b := p_isBox_f hn rb (c0 h)
theorem q_take_no {Q : Int → jx_St → jx_St → jx_St → jx_St → jx_St → jx_St → jx_St → jx_St → Prop} {sB sC sS σ η h0 h1 h2 h3 : jx_St} {b : Int} (hI : Inv σ) (hb : nb b) (hn : σ 0 b = -1) (h : Q (-1000002) sC sS σ η h0 h1 h2 h3) : wp_B_take Q sB sC sS σ η h0 h1 h2 h3 b := p_isBox_t hb (c1 (p_has_f hI hb hn (c0 h)))
theorem q_take {Q : Int → jx_St → jx_St → jx_St → jx_St → jx_St → jx_St → jx_St → jx_St → Prop} {sB sC sS σ η h0 h1 h2 h3 : jx_St} {b : Int} (hI : Inv σ) (hH : HI η h0 h1 h2 h3) (hb : nb b) (hn : σ 0 b ≠ -1) (h : ∀ ρ ψ τ η' t0 t1 t2 t3, TR (gho σ) σ b ρ τ → HR σ η h0 h1 h2 h3 η' t0 t1 t2 t3 → Q (τ 2 (τ 7 0) + 1) ρ ψ τ η' t0 t1 t2 t3) : wp_B_take Q sB sC sS σ η h0 h1 h2 h3 b :=
  p_isBox_t hb (c1 (p_has_t hI hb hn (c1 (q_record hI hH (fun η' t0 t1 t2 t3 hR => p_takeOut hI (ag_gho σ) (gho_3 σ) hb hn (fun ρ ψ τ g => p_height g.1.1.1.1.1 (h ρ ψ τ η' t0 t1 t2 t3 g hR)))))))
/-! trials -/
def BW (σ : jx_St) (t v : Int) (ρ τ : jx_St) : Prop := ∃ σu, BR (gho σ) σu t v ρ τ
def TW (σ : jx_St) (t : Int) (ρ τ : jx_St) : Prop := ∃ σu, TR (gho σ) σu t ρ τ
theorem q_would_bad {Q : Int → jx_St → jx_St → jx_St → jx_St → Prop} {sB sS σ sW sV sU : jx_St} {x y z w k : Int} (hn : ¬ (Wn x y z w ∧ 0 ≤ k ∧ k ≤ 4)) (rx : jx_R x) (ry : jx_R y) (rz : jx_R z) (rw' : jx_R w) (rk : jx_R k) (h : Q (-1000001) sS sW sV sU) : wp_B_would Q sB sS σ sW sV sU x y z w k := by
  by_cases c : Wn x y z w
  · exact p_isWindow_t c (c1 (p_upTo_f (fun e => hn ⟨c, e⟩) rk (R_lit 4 (by decide)) (c0 h)))
  · exact p_isWindow_f c rx ry rz rw' (c0 h)
theorem q_would_full {Q : Int → jx_St → jx_St → jx_St → jx_St → Prop} {sB sS σ sW sV sU : jx_St} {x y z w k : Int} (hI : Inv σ) (hw : Wn x y z w) (hk : 0 ≤ k ∧ k ≤ 4) (hf : ∀ b, nb b → σ 0 b ≠ -1) (h : Q (-1000002) sS sW sV sU) : wp_B_would Q sB sS σ sW sV sU x y z w k := by
  refine p_isWindow_t hw (c1 (p_upTo_t hk.1 hk.2 (R_lit 4 (by decide)) (c1 (p_freeNumber hI (fun t ht => ?_)))))
  by_cases c : t < 31
  · exact absurd (ht.2.2 c) (hf t ⟨ht.1.1, c⟩)
  · rw [if_neg c]
    exact ⟨R_lit (-1) (by decide), fun _ => h, fun z => absurd rfl z⟩
theorem p_way {Q : Int → Prop} {σ : jx_St} {v : Int} (hI : Inv σ) (hv : vb v) (h : lvn σ (dsc σ v 0 8 (σ 7 0)) → σ 2 (dsc σ v 0 8 (σ 7 0)) = 0 → Q (dsc σ v 0 8 (σ 7 0))) : wp_T_nodeFor Q σ v 0 := by
  have h1z : ∀ z, lvn σ z → 0 < σ 2 z → 1 ≤ σ 3 z := fun z hz z0 => ((hI.1.2.2.2.1 z hz).2.2.resolve_left List.not_mem_nil).2 z0
  have l3 := hI.1.1.2.1
  obtain ⟨n1, n2⟩ := dsc_ok (b := v) hI.1.sh h1z (Int.le_refl 0) 8 (σ 7 0) hI.1.1.1 hI.1.1.1.2 (by show σ 2 (σ 7 0) - 0 ≤ 8; omega)
  exact p_nodeFor hI.1.sh (fun z hz => hI.2.1.1 z hz.1) h1z hI.1.1.1 ⟨Int.le_refl 0, hI.1.1.1.2⟩ (Or.inr hv) (h n1 n2)
theorem q_would {Q : Int → jx_St → jx_St → jx_St → jx_St → Prop} {sB sS σ sW sV sU : jx_St} {x y z w k t : Int} (hI : Inv σ) (hw : Wn x y z w) (hk : 0 ≤ k ∧ k ≤ 4) (ht : frN σ t) (t1 : t < 31)
    (h0 : k = 0 → ∀ ψ', Q (pl σ (dsc σ (bo x y z w) 0 8 (σ 7 0))) ψ' sW sV sU)
    (h1 : k = 1 → Q (if σ 3 (dsc σ (bo x y z w) 0 8 (σ 7 0)) < 4 then 0 else 1) sS sW sV sU)
    (h2 : ∀ ρ ψ τ, BW σ t (bo x y z w) ρ τ → (k = 2 → Q (ρ 8 0) sS ρ ψ τ) ∧ (k = 3 → Q (τ 2 (τ 7 0) + 1) sS ρ ψ τ) ∧ (k = 4 → ∀ ψ', Q (ps (cN τ) (row τ 0)) sS ρ ψ' τ)) : wp_B_would Q sB sS σ sW sV sU x y z w k := by
  refine p_isWindow_t hw (c1 (p_upTo_t hk.1 hk.2 (R_lit 4 (by decide)) (c1 (p_freeNumber hI (fun t' ht' => ?_)))))
  have et : t' = t := by
    obtain ⟨⟨a1, a2⟩, a3, a4⟩ := ht
    obtain ⟨⟨b1, b2⟩, b3, b4⟩ := ht'
    by_cases c : t' < t
    · exact absurd (b4 (by omega)) (a3 t' b1 c)
    · by_cases d : t < t'
      · exact absurd (a4 t1) (b3 t a1 d)
      · omega
  subst et
  have t0 := ht.1.1
  have kR : jx_R k := jx_inR (by omega) (by omega)
  rw [if_pos t1]
  refine ⟨jx_inR (by omega) (by omega), fun e => absurd e (by omega), fun _ => p_of (p_way hI (vb_bo hw) (fun n1 n2 => ?_))⟩
  have s5 := hI.1.sh.1 _ n1
  refine ⟨kR, fun e => q_placeOf hI n1 (h0 e), fun e0 => ⟨kR, fun e => p_sizeOf n1.1 ⟨jx_inR (by omega) (by omega), fun c => ?_, fun c => ?_⟩, fun e1 => p_copy (fun σu hE => p_bringIn (μ := gho σ) (inv_er hI hE) (ag_er hI (ag_gho σ) hE) ⟨t0, t1⟩ (by rw [(hE.1 t' t0 t1).1]; exact ht.2.2 t1) (vb_bo hw) (fun ρ ψ τ g => ?_))⟩⟩
  · have := h1 e
    rw [if_pos c] at this
    exact this
  · have := h1 e
    rw [if_neg c] at this
    exact this
  · obtain ⟨g2, g3, g4⟩ := h2 ρ ψ τ ⟨σu, g⟩
    exact ⟨kR, fun e => g2 e, fun e2 => ⟨kR, fun e => p_height g.1.1.1.1.1 (g3 e), fun e3 => q_overlapsOf g.1 (R_lit 0 (by decide)) (g4 (by omega))⟩⟩
theorem q_wtake_bad {Q : Int → jx_St → jx_St → jx_St → Prop} {sB σ sW sV sU : jx_St} {b k : Int} (hn : ¬ (nb b ∧ 0 ≤ k ∧ k ≤ 3)) (rb : jx_R b) (rk : jx_R k) (h : Q (-1000001) sW sV sU) : wp_B_wouldTake Q sB σ sW sV sU b k := by
  by_cases c : nb b
  · exact p_isBox_t c (c1 (p_upTo_f (fun e => hn ⟨c, e⟩) rk (R_lit 3 (by decide)) (c0 h)))
  · exact p_isBox_f c rb (c0 h)
theorem q_wtake_no {Q : Int → jx_St → jx_St → jx_St → Prop} {sB σ sW sV sU : jx_St} {b k : Int} (hI : Inv σ) (hb : nb b) (hk : 0 ≤ k ∧ k ≤ 3) (hn : σ 0 b = -1) (h : Q (-1000004) sW sV sU) : wp_B_wouldTake Q sB σ sW sV sU b k :=
  p_isBox_t hb (c1 (p_upTo_t hk.1 hk.2 (R_lit 3 (by decide)) (c1 (p_has_f hI hb hn (c0 h)))))
theorem q_wtake {Q : Int → jx_St → jx_St → jx_St → Prop} {sB σ sW sV sU : jx_St} {b k : Int} (hI : Inv σ) (hb : nb b) (hk : 0 ≤ k ∧ k ≤ 3) (hn : σ 0 b ≠ -1)
    (h : ∀ ρ ψ τ, TW σ b ρ τ → (k = 0 → Q (τ 10 0 - σ 10 0) ρ ψ τ) ∧ (k = 1 → Q (ρ 8 0) ρ ψ τ) ∧ (k = 2 → Q (τ 2 (τ 7 0) + 1) ρ ψ τ) ∧ (k = 3 → ∀ ψ', Q (ps (cN τ) (row τ 0)) ρ ψ' τ)) : wp_B_wouldTake Q sB σ sW sV sU b k := by
  have kR : jx_R k := jx_inR (by omega) (by omega)
  refine p_isBox_t hb (c1 (p_upTo_t hk.1 hk.2 (R_lit 3 (by decide)) (c1 (p_has_t hI hb hn (c1 (p_copy (fun σu hE => p_takeOut (μ := gho σ) (inv_er hI hE) (ag_er hI (ag_gho σ) hE) (by rw [hE.2.2.2.2.2.2]; exact gho_3 σ) hb (by rw [(hE.1 b hb.1 hb.2).1]; exact hn) (fun ρ ψ τ g => ?_))))))))
  obtain ⟨g0, g1, g2, g3⟩ := h ρ ψ τ ⟨σu, g⟩
  exact ⟨kR, g0, fun e0 => ⟨kR, g1, fun e1 => ⟨kR, fun e => p_height g.1.1.1.1.1 (g2 e), fun e3 => q_overlapsOf g.1 (R_lit 0 (by decide)) (g3 (by omega))⟩⟩⟩
/-! courts, common parts, text -/
theorem q_court_bad {Q : Int → Prop} {sB ρ : jx_St} {k j : Int} (hn : k < 0 ∨ ¬ (0 ≤ j ∧ j ≤ 1)) (rk : jx_R k) (rj : jx_R j) (h : Q (-1000001)) : wp_B_court Q sB ρ k j := by
  by_cases c : k < 0
  · exact ⟨rk, fun _ => h, fun z => absurd c z⟩
  · exact ⟨rk, fun z => absurd z c, fun _ => p_upTo_f (hn.resolve_left c) rj (R_lit 1 (by decide)) (c0 h)⟩
theorem q_court_no {Q : Int → Prop} {sB ρ : jx_St} {k j : Int} (k0 : 0 ≤ k) (rk : jx_R k) (hr : jx_R (ρ 8 0)) (hk : ρ 8 0 ≤ k) (hj : 0 ≤ j ∧ j ≤ 1) (h : Q (-1000004)) : wp_B_court Q sB ρ k j :=
  ⟨rk, fun z => absurd z (by omega), fun _ => p_upTo_t hj.1 hj.2 (R_lit 1 (by decide)) (c1 ⟨rk, hr, fun z => absurd z (by omega), fun _ => h⟩)⟩
theorem q_court {Q : Int → Prop} {sB ρ : jx_St} {k j : Int} (k0 : 0 ≤ k) (hr : ρ 8 0 ≤ 32) (hk : k < ρ 8 0) (hj : 0 ≤ j ∧ j ≤ 1) (h : Q (if j = 0 then ρ 6 k else ρ 7 k)) : wp_B_court Q sB ρ k j := by
  have rk : jx_R k := jx_inR (by omega) (by omega)
  refine ⟨rk, fun z => absurd z (by omega), fun _ => p_upTo_t hj.1 hj.2 (R_lit 1 (by decide)) (c1 ⟨rk, jx_inR (by omega) (by omega), fun _ => ⟨jx_inR (by omega) (by omega), fun e => ⟨rk, ?_⟩, fun e => ⟨rk, ?_⟩⟩, fun z => absurd hk z⟩)⟩
  · rw [if_pos e] at h
    rw [jx_at_in k0 (by show k < 64; omega)]
    exact h
  · rw [if_neg e] at h
    rw [jx_at_in k0 (by show k < 64; omega)]
    exact h
theorem q_overlap_bad {Q : Int → Prop} {sB σ : jx_St} {a b : Int} (ha : nb a) (hb : ¬ nb b) (rb : jx_R b) (h : Q (-1000001)) : wp_B_overlap Q sB σ a b :=
  p_isBox_t ha (c1 (p_isBox_f hb rb (c0 h)))
theorem q_overlap_no {Q : Int → Prop} {sB σ : jx_St} {a b : Int} (hI : Inv σ) (ha : nb a) (hb : nb b) (hn : σ 0 a = -1) (h : Q (-1000004)) : wp_B_overlap Q sB σ a b :=
  p_isBox_t ha (c1 (p_isBox_t hb (c1 (p_has_f hI ha hn (c0 h)))))
theorem q_type_bad {Q : Int → jx_St → Prop} {sB o : jx_St} {k : Int} (hk : k < 32) (rk : jx_R k) (h : Q (-1000001) o) : wp_B_type Q sB o k := ⟨rk, fun _ => h, fun z => absurd hk z⟩
def Ty (o o' : jx_St) (k : Int) : Prop := o' 1 0 = o 1 0 + 1 ∧ (∀ j, o' 0 j = if j = o 1 0 then k else o 0 j)
theorem q_type {Q : Int → jx_St → Prop} {sB o : jx_St} {k : Int} (h0 : 0 ≤ o 1 0) (h1 : o 1 0 < 60) (hk : 32 ≤ k ∧ k ≤ 126) (h : ∀ o', Ty o o' k → Q (o 1 0 + 1) o') : wp_B_type Q sB o k := by
  have rk : jx_R k := jx_inR (by omega) (by omega)
  have r1 : jx_R (o 1 0) := jx_inR (by omega) (by omega)
  refine ⟨rk, fun z => absurd z (by omega), fun _ => ⟨rk, fun _ => ⟨r1, fun _ => ⟨r1, fun _ => ⟨r1, ?_⟩, fun z => absurd h1 z⟩, fun z => absurd h1 z⟩, fun z => absurd hk.2 z⟩⟩
  have hT : Ty o (jx_su (jx_se 60 o 0 (o 1 0) k) 1 0 (((jx_se 60 o 0 (o 1 0) k) 1 0) + 1)) k := by
    rw [jx_se_in h0 (by show o 1 0 < 60; exact h1)]
    refine ⟨by rw [jx_su_eq, jx_su_ne (by decide)], fun j => ?_⟩
    rw [jx_su_ne (by decide), jx_su_same]
  have := h _ hT
  rw [← hT.1] at this
  exact this
theorem q_fault_bad {Q : Int → jx_St → Prop} {sB σ o : jx_St} {k : Int} (hk : ¬ (0 ≤ k ∧ k ≤ 2)) (rk : jx_R k) (h : Q (-1000001) o) : wp_B_fault Q sB σ o k := p_upTo_f hk rk (R_lit 2 (by decide)) (c0 h)
theorem q_fault {Q : Int → jx_St → Prop} {sB σ o : jx_St} {k : Int} (hI : Inv σ) (hT : Txo o) (hk : 0 ≤ k ∧ k ≤ 2) {R : Int × Int × Int × Int} (hR : exm (chr o) (o 1 0) 60 0 (dF σ) 0 = R) (h : ∀ o', o' 0 = o 0 → o' 1 = o 1 → Q (if R.2.1 = 0 then -1000004 else if k = 0 then R.1 else if k = 1 then R.2.1 else if R.2.2.1 = -1 then -1000004 else R.2.2.1) o') : wp_B_fault Q sB σ o k := by
  have kR : jx_R k := jx_inR (by omega) (by omega)
  refine p_upTo_t hk.1 hk.2 (R_lit 2 (by decide)) (c1 (p_boxSet hI ?_))
  rw [bsF_bD]
  refine p_examine hT (fun o' q0 q1 q2 q3 q4 q5 q6 q7 => ?_)
  have hh := h o' q0 q1
  rw [hR] at q2 q3 q4 q5
  refine ⟨q6, fun e => ?_, fun e => ?_⟩
  · rw [if_pos (q3.symm.trans e)] at hh; exact hh
  · have e' : R.2.1 ≠ 0 := fun z => e (q3.trans z)
    obtain ⟨q4a, q4b⟩ := q4 e'
    rw [if_neg e'] at hh
    refine ⟨kR, fun k0 => ?_, fun k0 => ⟨kR, fun k1 => ?_, fun k1 => ⟨q4b, fun d => ?_, fun d => ?_⟩⟩⟩
    · rw [if_pos k0] at hh; rw [q2]; exact hh
    · rw [if_neg k0, if_pos k1] at hh; rw [q3]; exact hh
    · rw [if_neg k0, if_neg k1, if_pos (q4a.symm.trans d)] at hh; exact hh
    · rw [if_neg k0, if_neg k1, if_neg (fun z => d (q4a.trans z))] at hh; rw [q4a]; exact hh
