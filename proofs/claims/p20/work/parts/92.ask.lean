/-! ===== the property: what the calls that look answer, as functions of the tree ===== -/
def orL (f : Int → Int) : Nat → Int
  | 0 => 0
  | k + 1 => jx_or (orL f k) (jx_shl 1 (f (k : Int)))
theorem orL_succ {f : Int → Int} {i : Int} (h : 0 ≤ i) : orL f (i + 1).toNat = jx_or (orL f i.toNat) (jx_shl 1 (f i)) := by
  rw [show (i + 1).toNat = i.toNat + 1 by omega]
  simp only [orL]
  rw [toNat_cast h]
theorem p_boxesOfLeaf {Q : Int → Prop} {σ : jx_St} {n : Int} (hW : Ws σ [] []) (hn : lvn σ n) (h : Q (orL (th σ n) (σ 3 n).toNat)) : wp_T_boxesOfLeaf Q σ n := by
  have s5 := hW.sh.1 n hn
  refine jx_loop (fun v => 0 ≤ v.2 ∧ v.2 ≤ σ 3 n ∧ v.1 = orL (th σ n) v.2.toNat) (fun v => (8 - v.2).toNat) (fun B v hI hB => ?_) ⟨Int.le_refl _, s5.1, rfl⟩
  obtain ⟨a, i⟩ := v
  obtain ⟨a1, a2, a3⟩ := hI
  dsimp only at a1 a2 a3 ⊢
  refine p_sizeOf hn.1 ⟨jx_inR (by omega) (by omega), jx_inR (by omega) (by omega), fun q => p_thingAt hn.1 ⟨a1, by omega⟩ (hB _ ⟨by dsimp only; omega, by dsimp only; omega, ?_⟩ (by dsimp only; omega)), fun q => ?_⟩
  · dsimp only; rw [orL_succ a1, a3]
  · rw [a3, show i = σ 3 n by omega]; exact h
def aB (σ : jx_St) (b k : Int) : Int := if b < 0 ∨ 31 ≤ b ∨ k < 0 ∨ 5 < k then -1000001 else if σ 0 b = -1 then -1000004 else if k = 4 then pl σ (σ 1 b) else if k = 5 then kix σ (σ 1 b) b else bs (σ 0 b) k
def aN (σ : jx_St) (l p k : Int) : Int := if l < 0 ∨ p < 0 ∨ k < 0 ∨ 5 < k then -1000001 else match (row σ l)[p.toNat]? with
  | none => -1000004
  | some x => if k = 4 then σ 3 x else if k = 5 then (if l = 0 then orL (th σ x) (σ 3 x).toNat else pl σ (th σ x 0)) else if σ 3 x = 0 then -1000004 else bs (σ 4 x) k
def aV (σ : jx_St) (l : Int) : Int := if l < 0 then -1000001 else if l < σ 2 (σ 7 0) + 1 then ps (cN σ) (row σ l) else -1000004
theorem q_boxOf {Q : Int → jx_St → Prop} {sB sS σ : jx_St} {b k : Int} (hI : Inv σ) (r1 : jx_R b) (r2 : jx_R k) (h : ∀ ψ', Q (aB σ b k) ψ') : wp_B_boxOf Q sB sS σ b k := by
  unfold aB at h
  by_cases c1' : nb b
  · have b0 := c1'.1
    have b1 := c1'.2
    refine p_isBox_t c1' (c1 ?_)
    by_cases c2' : 0 ≤ k ∧ k ≤ 5
    · rw [if_neg (by omega)] at h
      refine p_upTo_t c2'.1 c2'.2 (R_lit 5 (by decide)) (c1 ?_)
      by_cases c3' : σ 0 b = -1
      · rw [if_pos c3'] at h
        exact p_has_f hI c1' c3' (c0 (h _))
      · rw [if_neg c3'] at h
        obtain ⟨h1, h2, h3⟩ := box_home hI c1' c3'
        refine p_has_t hI c1' c3' (c1 (p_homeOf c1' ⟨r2, fun e4 => ?_, fun n4 => ⟨r2, fun e5 => ?_, fun n5 => ?_⟩⟩))
        · rw [if_pos e4] at h
          exact q_placeOf hI h1 h
        · rw [if_neg n4, if_pos e5] at h
          exact q_placeIn hI h1 c1'.R h3 (h _)
        · rw [if_neg n4, if_neg n5] at h
          refine p_hull (R_lit 0 (by decide)) (by unfold tv; rw [if_pos rfl]; exact c1') (p_side ?_)
          rw [hv_0]
          exact h _
    · rw [if_pos (by omega)] at h
      exact p_upTo_f c2' r2 (R_lit 5 (by decide)) (c0 (h _))
  · rw [if_pos (by unfold nb at c1'; omega)] at h
    exact p_isBox_f c1' r1 (c0 (h _))
theorem q_nodeOf {Q : Int → jx_St → Prop} {sB sS σ : jx_St} {l p k : Int} (hI : Inv σ) (r1 : jx_R l) (r2 : jx_R p) (r3 : jx_R k) (h : ∀ ψ', Q (aN σ l p k) ψ') : wp_B_nodeOf Q sB sS σ l p k := by
  unfold aN at h
  refine ⟨r1, fun q => ?_, fun q => ⟨r2, fun y => ?_, fun y => ?_⟩⟩
  · rw [if_pos (by omega)] at h; exact h _
  · rw [if_pos (by omega)] at h; exact h _
  · by_cases c3 : 0 ≤ k ∧ k ≤ 5
    · rw [if_neg (by omega)] at h
      refine p_upTo_t c3.1 c3.2 (R_lit 5 (by decide)) (c1 (p_nodeAt hI.1 r1 (by omega) r2 (fun ψ' ψs S x hS hx => ?_) (fun ψ' ψs S hS hx => ?_)))
      · rw [fs_row hI.1 hS] at hx
        rw [hx] at h
        dsimp only at h
        obtain ⟨hl, hle⟩ := (mem_row hI.1).mp (List.mem_of_getElem? hx)
        have s5 := hI.1.sh.1 x hl
        have sR : jx_R (σ 3 x) := jx_inR (by omega) (by omega)
        have xn := hl.1.1
        have xm := hl.1.2
        refine ⟨hl.1.R, fun z => absurd z (by omega), fun _ => p_sizeOf hl.1 ⟨r3, fun e4 => ?_, fun n4 => ⟨r3, fun e5 => ⟨r1, fun e0 => ?_, fun e0 => ?_⟩, fun n5 => ⟨sR, fun es => ?_, fun es => ?_⟩⟩⟩⟩
        · rw [if_pos e4] at h; exact h _
        · rw [if_neg n4, if_pos e5, if_pos e0] at h
          exact p_boxesOfLeaf hI.1 hl (h _)
        · rw [if_neg n4, if_pos e5, if_neg e0] at h
          have hsz := ((hI.1.2.2.2.1 x hl).2.2.resolve_left List.not_mem_nil).2 (by omega)
          have hkid := hI.1.kid hl (by omega) (th_kids (σ := σ) (n := x) (k := 0) (Int.le_refl _) (by omega))
          exact p_thingAt hl.1 ⟨Int.le_refl _, by decide⟩ (q_placeOf hI hkid.1 h)
        · rw [if_neg n4, if_neg n5, if_pos es] at h; exact h _
        · rw [if_neg n4, if_neg n5, if_neg es] at h
          have lb := (hI.1.2.1 x hl.1).resolve_left (by have := hl.2; omega)
          have l3 := hI.1.1.2.1
          refine p_hull (jx_inR (by omega) (by omega)) (by unfold tv; rw [if_neg (by omega)]; exact hl.1) (p_side ?_)
          have eh : hv σ x (l + 1) = σ 4 x := by unfold hv; rw [if_neg (by omega)]
          rw [eh]
          exact h _
      · rw [fs_row hI.1 hS] at hx
        rw [hx] at h
        exact ⟨jx_inR (by decide) (by decide), fun _ => h _, fun z => absurd rfl z⟩
    · rw [if_pos (by omega)] at h
      exact p_upTo_f c3 r3 (R_lit 5 (by decide)) (c0 (h _))
theorem q_overlapsOf {Q : Int → jx_St → Prop} {ψ σ : jx_St} {l : Int} (hI : Inv σ) (lR : jx_R l) (h : ∀ ψ', Q (ps (cN σ) (row σ l)) ψ') : wp_S_overlapsOf Q ψ σ l :=
  p_overlapsOf hI.1 hI.2.1 lR (fun ψ' ψs S hS => by rw [fs_row hI.1 hS]; exact h ψ')
theorem q_overlaps {Q : Int → jx_St → Prop} {sB sS σ : jx_St} {l : Int} (hI : Inv σ) (r1 : jx_R l) (h : ∀ ψ', Q (aV σ l) ψ') : wp_B_overlaps Q sB sS σ l := by
  unfold aV at h
  have l3 := hI.1.1.2.1
  have l0 := hI.1.1.1.2
  refine ⟨r1, fun q => ?_, fun q => p_height hI.1.1.1.1 ⟨r1, jx_inR (by omega) (by omega), fun y => ?_, fun y => ?_⟩⟩
  · rw [if_pos q] at h; exact h _
  · rw [if_neg q, if_pos y] at h; exact q_overlapsOf hI r1 h
  · rw [if_neg q, if_neg y] at h; exact h _
