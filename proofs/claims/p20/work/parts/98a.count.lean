/-! ===== the property: count, print ===== -/
def nBx (σ : jx_St) : Int := (sN (cB σ) 31 : Nat)
def aK (ρ σ η ο : jx_St) (k : Int) : Int := if k = 0 then nBx σ else if k = 1 then σ 2 (σ 7 0) + 1 else if k = 2 then smL (gD σ (fun _ => 1)) nds else if k = 3 then smL (gD σ (gLe σ)) nds else if k = 4 then ρ 8 0 else if k = 5 then σ 8 0 else if k = 6 then σ 9 0 else if k = 7 then σ 10 0 else if k = 8 then η 2 0 else if k = 9 then ο 1 0 else if k = 10 then smL (gD σ (gAr σ)) nds else -1000001
theorem q_count {Q : Int → jx_St → Prop} {sB sC sS σ sH sO : jx_St} {k : Int} (hI : Inv σ) (r1 : jx_R k) (h : ∀ ψ', Q (aK sC σ sH sO k) ψ') : wp_B_count Q sB sC sS σ sH sO k := by
  refine ⟨r1, fun z => ?_, fun z => ?_, fun z => ?_, fun z => ?_, fun z => ?_, fun z => ?_, fun z => ?_, fun z => ?_, fun z => ?_, fun z => ?_, fun z => ?_, fun z => ?_⟩
  · subst z
    refine p_boxSet hI ?_
    rw [pop_bsF]
    exact h _
  · subst z
    exact p_height hI.1.1.1.1 (h _)
  · subst z
    exact p_nodes hI.1 h
  · subst z
    exact p_leaves hI.1 h
  · subst z; exact h _
  · subst z; exact h _
  · subst z; exact h _
  · subst z; exact h _
  · subst z; exact h _
  · subst z; exact h _
  · subst z
    exact p_areaOfLeaves hI.1 hI.2.1 h
  · have e : aK sC σ sH sO k = -1000001 := by
      unfold aK
      rw [if_neg (by omega), if_neg (by omega), if_neg (by omega), if_neg (by omega), if_neg (by omega), if_neg (by omega), if_neg (by omega), if_neg (by omega), if_neg (by omega), if_neg (by omega), if_neg (by omega)]
    rw [e] at h
    exact h _
def pF (f : Int → Int) : Nat → Int64 → Int64
  | 0, a => a
  | n + 1, a => (31 : Int64) * pF f n a + jx_l (f (n : Int))
def fc (σ : jx_St) (k : Int) : Int := if k = 4 ∨ k = 8 ∨ k = 9 then 0 else aK σ σ σ σ k
def pB (σ : jx_St) : Nat → Int64 → Int64
  | 0, a => a
  | n + 1, a => pF (aB σ (n : Int)) 6 (pB σ n a)
def pP (σ : jx_St) (l : Int) : Nat → Int64 → Int64
  | 0, a => a
  | n + 1, a => pF (aN σ l (n : Int)) 6 (pP σ l n a)
def pL (σ : jx_St) : Nat → Int64 → Int64
  | 0, a => a
  | n + 1, a => (31 : Int64) * pP σ (n : Int) (row σ (n : Int)).length (pL σ n a) + jx_l (aV σ (n : Int))
def prV (σ : jx_St) : Int64 := pL σ (σ 2 (σ 7 0) + 1).toNat (pB σ 31 (pF (fc σ) 11 7))
theorem pF_succ {f : Int → Int} {i : Int} {a : Int64} (h : 0 ≤ i) : pF f (i + 1).toNat a = (31 : Int64) * pF f i.toNat a + jx_l (f i) := by
  rw [show (i + 1).toNat = i.toNat + 1 by omega]
  simp only [pF]
  rw [toNat_cast h]
theorem pB_succ {σ : jx_St} {i : Int} {a : Int64} (h : 0 ≤ i) : pB σ (i + 1).toNat a = pF (aB σ i) 6 (pB σ i.toNat a) := by
  rw [show (i + 1).toNat = i.toNat + 1 by omega]
  simp only [pB]
  rw [toNat_cast h]
theorem pP_succ {σ : jx_St} {l i : Int} {a : Int64} (h : 0 ≤ i) : pP σ l (i + 1).toNat a = pF (aN σ l i) 6 (pP σ l i.toNat a) := by
  rw [show (i + 1).toNat = i.toNat + 1 by omega]
  simp only [pP]
  rw [toNat_cast h]
theorem pL_succ {σ : jx_St} {i : Int} {a : Int64} (h : 0 ≤ i) : pL σ (i + 1).toNat a = (31 : Int64) * pP σ i (row σ i).length (pL σ i.toNat a) + jx_l (aV σ i) := by
  rw [show (i + 1).toNat = i.toNat + 1 by omega]
  simp only [pL]
  rw [toNat_cast h]
theorem aK_free {ρ σ η ο : jx_St} {k : Int} (h : ¬ (k = 4 ∨ k = 8 ∨ k = 9)) : aK ρ σ η ο k = fc σ k := by
  unfold fc
  rw [if_neg h]
  unfold aK
  have h4 : ¬ k = 4 := fun z => h (Or.inl z)
  have h8 : ¬ k = 8 := fun z => h (Or.inr (Or.inl z))
  have h9 : ¬ k = 9 := fun z => h (Or.inr (Or.inr z))
  rw [if_neg h4, if_neg h4, if_neg h8, if_neg h8, if_neg h9, if_neg h9]
/-- what a node's size tells -/
theorem aN_some {σ : jx_St} {l p x : Int} (l0 : 0 ≤ l) (p0 : 0 ≤ p) (h : (row σ l)[p.toNat]? = some x) : aN σ l p 4 = σ 3 x := by
  unfold aN
  rw [if_neg (by omega), h]
  exact if_pos rfl
theorem aN_none {σ : jx_St} {l p k : Int} (l0 : 0 ≤ l) (p0 : 0 ≤ p) (k0 : 0 ≤ k ∧ k ≤ 5) (h : (row σ l).length ≤ p.toNat) : aN σ l p k = -1000004 := by
  unfold aN
  rw [if_neg (by omega), List.getElem?_eq_none_iff.mpr h]
theorem row_at {σ : jx_St} (hW : Ws σ [] []) {l p : Int} (p1 : p.toNat < (row σ l).length) : ∃ x, (row σ l)[p.toNat]? = some x ∧ lvn σ x ∧ σ 2 x = l :=
  ⟨_, List.getElem?_eq_getElem p1, (mem_row hW).mp (List.getElem_mem p1)⟩
theorem aN4 {σ : jx_St} (hI : Inv σ) {l p : Int} (l0 : 0 ≤ l) (p0 : 0 ≤ p) : jx_R (aN σ l p 4) ∧ (aN σ l p 4 < 0 ↔ (row σ l).length ≤ p.toNat) := by
  by_cases c : p.toNat < (row σ l).length
  · obtain ⟨x, h1, h2, h3⟩ := row_at hI.1 c
    have s := hI.1.sh.1 x h2
    rw [aN_some l0 p0 h1]
    exact ⟨jx_inR (by omega) (by omega), by omega⟩
  · rw [aN_none l0 p0 (by decide) (by omega)]
    exact ⟨R_lit _ (by decide), fun _ => by omega, fun _ => by decide⟩
theorem q_print {Q : Int64 → jx_St → Prop} {sB sC sS σ sH sO : jx_St} (hI : Inv σ) (h : ∀ ψ', Q (prV σ) ψ') : wp_L_print Q sB sC sS σ sH sO := by
  have l0 := hI.1.1.1.2
  have l3 := hI.1.1.2.1
  refine jx_loop (fun v => 0 ≤ v.2.2 ∧ v.2.2 ≤ 11 ∧ v.2.1 = pF (fc σ) v.2.2.toNat 7) (fun v => (11 - v.2.2).toNat) (fun B v hJ hB => ?_) ⟨Int.le_refl _, by dsimp only; omega, rfl⟩
  obtain ⟨ψ, a, i⟩ := v
  obtain ⟨a1, a2, a3⟩ := hJ
  dsimp only at a1 a2 a3
  show wp_L_print_6 Q sB sC σ sH sO _ B ψ a i
  have iR : jx_R i := jx_inR (by omega) (by omega)
  have nxt : i < 11 → ∀ ψ' t, t = fc σ i → B (ψ', (31 : Int64) * a + jx_l t, i + 1) := fun qi ψ' t ht => hB _ ⟨by dsimp only; omega, by dsimp only; omega, by dsimp only; rw [pF_succ a1, a3, ht]⟩ (by dsimp only; omega)
  refine ⟨iR, fun q => ⟨Or.inl ⟨iR, R_lit 4 (by decide)⟩, fun e => nxt q _ _ ?_, fun n4 => ⟨Or.inl ⟨iR, R_lit 8 (by decide)⟩, fun e => nxt q _ _ ?_, fun n8 => ⟨Or.inl ⟨iR, R_lit 9 (by decide)⟩, fun e => nxt q _ _ ?_, fun n9 => q_count hI iR (fun ψ' => nxt q _ _ (aK_free (by omega)))⟩⟩⟩, fun q => ?_⟩
  · unfold fc; rw [if_pos (Or.inl e)]
  · unfold fc; rw [if_pos (Or.inr (Or.inl e))]
  · unfold fc; rw [if_pos (Or.inr (Or.inr e))]
  have e11 : i = 11 := by omega
  rw [a3, e11]
  generalize hA1 : pF (fc σ) (11 : Int).toNat 7 = a1'
  -- the boxes
  refine jx_loop (fun v => 0 ≤ v.2.2 ∧ v.2.2 ≤ 31 ∧ v.2.1 = pB σ v.2.2.toNat a1') (fun v => (31 - v.2.2).toNat) (fun B2 v hJ hB2 => ?_) ⟨Int.le_refl _, by dsimp only; omega, rfl⟩
  obtain ⟨ψ2, b, j⟩ := v
  obtain ⟨b1, b2, b3⟩ := hJ
  dsimp only at b1 b2 b3
  show wp_L_print_54 Q sB sC σ sH sO _ B2 ψ2 b j
  have jR : jx_R j := jx_inR (by omega) (by omega)
  refine ⟨jR, fun q2 => ?_, fun q2 => ?_⟩
  · refine jx_loop (fun v => 0 ≤ v.2.2 ∧ v.2.2 ≤ 6 ∧ v.2.1 = pF (aB σ j) v.2.2.toNat b) (fun v => (6 - v.2.2).toNat) (fun B3 v hJ hB3 => ?_) ⟨Int.le_refl _, by dsimp only; omega, rfl⟩
    obtain ⟨ψ3, c, k⟩ := v
    obtain ⟨c1', c2', c3'⟩ := hJ
    dsimp only at c1' c2' c3'
    show wp_L_print_63 Q sB sC σ sH sO _ j B3 ψ3 c k
    have kR : jx_R k := jx_inR (by omega) (by omega)
    refine ⟨kR, fun q3 => q_boxOf hI jR kR (fun ψ' => hB3 _ ⟨by dsimp only; omega, by dsimp only; omega, by dsimp only; rw [pF_succ c1', c3']⟩ (by dsimp only; omega)), fun q3 => hB2 _ ⟨by dsimp only; omega, by dsimp only; omega, ?_⟩ (by dsimp only; omega)⟩
    dsimp only
    rw [pB_succ b1, c3', b3, show k = 6 by omega]
    rfl
  have e31 : j = 31 := by omega
  rw [b3, e31]
  generalize hA2 : pB σ (31 : Int).toNat a1' = a2'
  -- the levels
  have hfin : prV σ = pL σ (σ 2 (σ 7 0) + 1).toNat a2' := by rw [← hA2, ← hA1]; rfl
  refine jx_loop (fun v => 0 ≤ v.2.2 ∧ v.2.2 ≤ σ 2 (σ 7 0) + 1 ∧ v.2.1 = pL σ v.2.2.toNat a2') (fun v => (σ 2 (σ 7 0) + 1 - v.2.2).toNat) (fun B4 v hJ hB4 => ?_) ⟨Int.le_refl _, by dsimp only; omega, rfl⟩
  obtain ⟨ψ4, d, l⟩ := v
  obtain ⟨d1, d2, d3⟩ := hJ
  dsimp only at d1 d2 d3
  show wp_L_print_99 Q sB sC σ sH sO _ B4 ψ4 d l
  have lR : jx_R l := jx_inR (by omega) (by omega)
  refine q_count hI (R_lit 1 (by decide)) (fun ψ5 => ?_)
  have ek : aK sC σ sH sO 1 = σ 2 (σ 7 0) + 1 := rfl
  rw [ek]
  refine ⟨lR, jx_inR (by omega) (by omega), fun q4 => ?_, fun q4 => ?_⟩
  · refine jx_loop (fun v => 0 ≤ v.2.2 ∧ v.2.2.toNat ≤ (row σ l).length ∧ v.2.1 = pP σ l v.2.2.toNat d) (fun v => ((row σ l).length - v.2.2.toNat)) (fun B5 v hJ hB5 => ?_) ⟨Int.le_refl _, Nat.zero_le _, rfl⟩
    obtain ⟨ψ6, f, p⟩ := v
    obtain ⟨f1, f2, f3⟩ := hJ
    dsimp only at f1 f2 f3
    show wp_L_print_111 Q sB sC σ sH sO _ l B5 ψ6 f p
    have hlen := row_len hI.1 l
    have pR : jx_R p := jx_inR (by omega) (by omega)
    obtain ⟨n1, n2⟩ := aN4 hI d1 f1 (l := l) (p := p)
    refine q_nodeOf hI lR pR (R_lit 4 (by decide)) (fun ψ7 => ⟨n1, fun q5 => ?_, fun q5 => ?_⟩)
    · have hp := n2.mp q5
      refine q_overlaps hI lR (fun ψ8 => hB4 _ ⟨by dsimp only; omega, by dsimp only; omega, ?_⟩ (by dsimp only; omega))
      dsimp only
      rw [pL_succ d1, f3, d3, show p.toNat = (row σ l).length by omega]
    · have hp : p.toNat < (row σ l).length := Nat.lt_of_not_le (fun z => q5 (n2.mpr z))
      refine jx_loop (fun v => 0 ≤ v.2.2 ∧ v.2.2 ≤ 6 ∧ v.2.1 = pF (aN σ l p) v.2.2.toNat f) (fun v => (6 - v.2.2).toNat) (fun B6 v hJ hB6 => ?_) ⟨Int.le_refl _, by dsimp only; omega, rfl⟩
      obtain ⟨ψ8, g, k⟩ := v
      obtain ⟨g1, g2, g3⟩ := hJ
      dsimp only at g1 g2 g3
      show wp_L_print_125 Q sB sC σ sH sO _ l p B6 ψ8 g k
      have kR : jx_R k := jx_inR (by omega) (by omega)
      refine ⟨kR, fun q6 => q_nodeOf hI lR pR kR (fun ψ' => hB6 _ ⟨by dsimp only; omega, by dsimp only; omega, by dsimp only; rw [pF_succ g1, g3]⟩ (by dsimp only; omega)), fun q6 => hB5 _ ⟨by dsimp only; omega, by dsimp only; omega, ?_⟩ (by dsimp only; omega)⟩
      dsimp only
      rw [pP_succ f1, g3, f3, show k = 6 by omega]
      rfl
  · have el : l = σ 2 (σ 7 0) + 1 := by omega
    show Q d ψ5
    rw [d3, el, ← hfin]
    exact h _
