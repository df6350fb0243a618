/-! ===== the pure part: count, window ===== -/
theorem p_isPoint_t {Q : Int → Prop} {v : Int} (h0 : 0 ≤ v ∧ v ≤ 99) (h : Q 1) : wp_B_isPoint Q v := p_upTo_t h0.1 h0.2 (R_lit 99 (by decide)) ⟨Or.inr rfl, h⟩
theorem p_isPoint_f {Q : Int → Prop} {v : Int} (h0 : ¬ (0 ≤ v ∧ v ≤ 99)) (hv : jx_R v) (h : Q 0) : wp_B_isPoint Q v := p_upTo_f h0 hv (R_lit 99 (by decide)) ⟨Or.inl rfl, h⟩
theorem p_isWindow_t {Q : Int → Prop} {a b c d : Int} (hw : Wn a b c d) (h : Q 1) : wp_B_isWindow Q a b c d := by
  obtain ⟨h1, h2, h3, h4, h5, h6⟩ := hw
  refine p_isPoint_t ⟨h1, by omega⟩ (c1 (p_isPoint_t ⟨h2, by omega⟩ (c1 (p_isPoint_t ⟨by omega, h5⟩ (c1 (p_isPoint_t ⟨by omega, h6⟩ (c1 ?_)))))))
  exact ⟨jx_inR (by omega) (by omega), jx_inR (by omega) (by omega), fun _ => ⟨jx_inR (by omega) (by omega), jx_inR (by omega) (by omega), fun _ => h, fun z => absurd h4 z⟩, fun z => absurd h3 z⟩
theorem p_isWindow_f {Q : Int → Prop} {a b c d : Int} (hw : ¬ Wn a b c d) (ra : jx_R a) (rb : jx_R b) (rc : jx_R c) (rd : jx_R d) (h : Q 0) : wp_B_isWindow Q a b c d := by
  by_cases k1 : 0 ≤ a ∧ a ≤ 99
  · refine p_isPoint_t k1 (c1 ?_)
    by_cases k2 : 0 ≤ b ∧ b ≤ 99
    · refine p_isPoint_t k2 (c1 ?_)
      by_cases k3 : 0 ≤ c ∧ c ≤ 99
      · refine p_isPoint_t k3 (c1 ?_)
        by_cases k4 : 0 ≤ d ∧ d ≤ 99
        · refine p_isPoint_t k4 (c1 ⟨ra, rc, fun z => ⟨rb, rd, fun y => absurd ⟨k1.1, k2.1, z, y, k3.2, k4.2⟩ hw, fun _ => h⟩, fun _ => h⟩)
        · exact p_isPoint_f k4 rd (c0 h)
      · exact p_isPoint_f k3 rc (c0 h)
    · exact p_isPoint_f k2 rb (c0 h)
  · exact p_isPoint_f k1 ra (c0 h)
theorem m_areSides_t {Q : Int → Prop} {a b c d : Int} (hw : Wn a b c d) (h : Q 1) : wp_M_areSides Q a b c d := by
  obtain ⟨h1, h2, h3, h4, h5, h6⟩ := hw
  exact m_in_t h1 (by omega) (R_lit 0 (by decide)) (R_lit 99 (by decide)) (c1 (m_in_t h2 (by omega) (R_lit 0 (by decide)) (R_lit 99 (by decide)) (c1 (m_in_t h3 h5 (jx_inR (by omega) (by omega)) (R_lit 99 (by decide)) (c1 (m_in_t h4 h6 (jx_inR (by omega) (by omega)) (R_lit 99 (by decide)) (c1 h)))))))
theorem m_areSides_f {Q : Int → Prop} {a b c d : Int} (hw : ¬ Wn a b c d) (ra : jx_R a) (rb : jx_R b) (rc : jx_R c) (rd : jx_R d) (h : Q 0) : wp_M_areSides Q a b c d := by
  by_cases k1 : 0 ≤ a ∧ a ≤ 99
  · refine m_in_t k1.1 k1.2 (R_lit 0 (by decide)) (R_lit 99 (by decide)) (c1 ?_)
    by_cases k2 : 0 ≤ b ∧ b ≤ 99
    · refine m_in_t k2.1 k2.2 (R_lit 0 (by decide)) (R_lit 99 (by decide)) (c1 ?_)
      by_cases k3 : a ≤ c ∧ c ≤ 99
      · refine m_in_t k3.1 k3.2 ra (R_lit 99 (by decide)) (c1 ?_)
        by_cases k4 : b ≤ d ∧ d ≤ 99
        · exact absurd ⟨k1.1, k2.1, k3.1, k4.1, k3.2, k4.2⟩ hw
        · exact m_in_f k4 rd rb (R_lit 99 (by decide)) (c0 h)
      · exact m_in_f k3 rc ra (R_lit 99 (by decide)) (c0 h)
    · exact m_in_f k2 rb (R_lit 0 (by decide)) (R_lit 99 (by decide)) (c0 h)
  · exact m_in_f k1 ra (R_lit 0 (by decide)) (R_lit 99 (by decide)) (c0 h)
theorem step_count : st_count RRd := by
  intro sB sT sS sC sU sV sW sH sH0 sH1 sH2 sH3 sO sM a1 hR r1
  obtain ⟨hI, hA, h3⟩ := id hR.1
  have hW := hI.1
  have hl3 := hW.1.2.1
  refine ⟨r1, fun e => ?_, fun e => ?_, fun e => ?_, fun e => ?_, fun e => ?_, fun e => ?_, fun e => ?_, fun e => ?_, fun e => ?_, fun e => ?_, fun e => ?_, fun e => ?_⟩
  · refine p_boxSet hI ?_
    rw [pop_bsF]
    refine ⟨r1, ?_, ?_, ?_, ?_, ?_, ?_, ?_, ?_, ?_, ?_, ?_, ?_⟩ <;> intro z <;> first | (exfalso; omega) | skip
    exact m_boxMany hA ⟨rfl, hR⟩
  · refine p_height hW.1.1.1 ?_
    refine ⟨r1, ?_, ?_, ?_, ?_, ?_, ?_, ?_, ?_, ?_, ?_, ?_, ?_⟩ <;> intro z <;> first | (exfalso; omega) | skip
    exact m_levels hI hA ⟨rfl, hR⟩
  · refine p_nodes hW (fun ψ' => ?_)
    refine ⟨r1, ?_, ?_, ?_, ?_, ?_, ?_, ?_, ?_, ?_, ?_, ?_, ?_⟩ <;> intro z <;> first | (exfalso; omega) | skip
    refine m_nodeMany hW hA (by decide) ⟨smL_congr (fun x hx => ?_), hR⟩
    unfold gD gTh
    rcases hW.2.1 x (mem_nds.mp hx) with y | y
    · rw [if_pos y, if_pos y]
    · rw [if_neg (by omega), if_neg (by omega), if_pos (by omega)]
  · refine p_leaves hW (fun ψ' => ?_)
    refine ⟨r1, ?_, ?_, ?_, ?_, ?_, ?_, ?_, ?_, ?_, ?_, ?_, ?_⟩ <;> intro z <;> first | (exfalso; omega) | skip
    refine m_nodeMany hW hA (by decide) ⟨smL_congr (fun x hx => ?_), hR⟩
    unfold gD gTh gLe
    rcases hW.2.1 x (mem_nds.mp hx) with y | y
    · rw [if_pos y, if_pos y]
    · have n1 : ¬ sT 2 x = -1 := by omega
      by_cases w : sT 2 x = 0
      · have w2 : sT 2 x ≤ 0 := by omega
        rw [if_neg n1, if_neg n1, if_pos w, if_pos w2]
      · have w2 : ¬ sT 2 x ≤ 0 := by omega
        rw [if_neg n1, if_neg n1, if_neg w, if_neg w2]
  · refine ⟨r1, ?_, ?_, ?_, ?_, ?_, ?_, ?_, ?_, ?_, ?_, ?_, ?_⟩ <;> intro z <;> first | (exfalso; omega) | skip
    exact ⟨hR.2.1.1.symm, hR⟩
  · refine ⟨r1, ?_, ?_, ?_, ?_, ?_, ?_, ?_, ?_, ?_, ?_, ?_, ?_⟩ <;> intro z <;> first | (exfalso; omega) | skip
    exact ⟨hA.2.2.2.2.2.2.1.symm, hR⟩
  · refine ⟨r1, ?_, ?_, ?_, ?_, ?_, ?_, ?_, ?_, ?_, ?_, ?_, ?_⟩ <;> intro z <;> first | (exfalso; omega) | skip
    exact ⟨hA.2.2.2.2.2.2.2.symm, hR⟩
  · refine ⟨r1, ?_, ?_, ?_, ?_, ?_, ?_, ?_, ?_, ?_, ?_, ?_, ?_⟩ <;> intro z <;> first | (exfalso; omega) | skip
    exact ⟨h3, hR⟩
  · refine ⟨r1, ?_, ?_, ?_, ?_, ?_, ?_, ?_, ?_, ?_, ?_, ?_, ?_⟩ <;> intro z <;> first | (exfalso; omega) | skip
    exact ⟨hR.2.2.2.2.2.2.2.1.symm, hR⟩
  · refine ⟨r1, ?_, ?_, ?_, ?_, ?_, ?_, ?_, ?_, ?_, ?_, ?_, ?_⟩ <;> intro z <;> first | (exfalso; omega) | skip
    exact ⟨hR.2.2.1.1.symm, hR⟩
  · refine p_areaOfLeaves hW hI.2.1 (fun ψ' => ?_)
    refine ⟨r1, ?_, ?_, ?_, ?_, ?_, ?_, ?_, ?_, ?_, ?_, ?_, ?_⟩ <;> intro z <;> first | (exfalso; omega) | skip
    obtain ⟨b, hb, hg⟩ := g_areas hW hI.2.1 hA
    exact hg _ ⟨rfl, rr_of hR (fun z hz => hb z (rr_ne hz rfl) (rr_ne hz rfl) (rr_ne hz rfl))⟩
  · refine ⟨r1, ?_, ?_, ?_, ?_, ?_, ?_, ?_, ?_, ?_, ?_, ?_, ?_⟩ <;> intro z <;> first | (exfalso; omega) | skip
    exact ⟨rfl, hR⟩
/-- the boxes that touch a window -/
def tbF (σ : jx_St) (w : Int) : Nat → Int
  | 0 => 0
  | k + 1 => if toF (σ 0 (k : Int)) w = 0 then tbF σ w k else jx_or (tbF σ w k) (jx_shl 1 (k : Int))
theorem tbF_R (σ : jx_St) (w : Int) (k : Nat) : jx_R (tbF σ w k) := by
  induction k with
  | zero => exact R_lit 0 (by decide)
  | succ k ih =>
    simp only [tbF]
    split
    · exact ih
    · exact rr_or _ _
theorem tbF_succ {σ : jx_St} {w i : Int} (h : 0 ≤ i) : tbF σ w (i + 1).toNat = if toF (σ 0 i) w = 0 then tbF σ w i.toNat else jx_or (tbF σ w i.toNat) (jx_shl 1 i) := by
  rw [show (i + 1).toNat = i.toNat + 1 by omega]
  simp only [tbF]
  rw [toNat_cast h]
theorem or_0 {x : Int} (h : jx_R x) : jx_or x 0 = x := by
  unfold jx_or
  have : jx_i 0 = 0 := rfl
  rw [this, Int32.or_zero, jx_toInt h]
theorem p_boxesTouching {Q : Int → Prop} {σ : jx_St} {w : Int} (hI : Inv σ) (wR : jx_R w) (h : Q (tbF σ w 31)) : wp_T_boxesTouching Q σ w := by
  refine jx_loop (fun v => 0 ≤ v.2 ∧ v.2 ≤ 31 ∧ v.1 = tbF σ w v.2.toNat) (fun v => (31 - v.2).toNat) (fun B v hJ hB => ?_) ⟨Int.le_refl _, by dsimp only; omega, rfl⟩
  obtain ⟨a, i⟩ := v
  obtain ⟨a1, a2, a3⟩ := hJ
  dsimp only at a1 a2 a3 ⊢
  refine ⟨jx_inR (by omega) (by omega), fun q => ?_, fun q => ?_⟩
  · have hb : nb i := ⟨a1, q⟩
    refine p_hull (R_lit 0 (by decide)) (by unfold tv; rw [if_pos rfl]; exact hb) ?_
    rw [hv_0]
    refine p_touch (hI.bR hb) wR ⟨toF_R _ _, fun c => hB _ ⟨by dsimp only; omega, by dsimp only; omega, ?_⟩ (by dsimp only; omega), fun c => hB _ ⟨by dsimp only; omega, by dsimp only; omega, ?_⟩ (by dsimp only; omega)⟩
    · dsimp only; rw [tbF_succ a1, if_pos c, a3]
    · dsimp only; rw [tbF_succ a1, if_neg c, a3]
  · rw [a3, show i = 31 by omega]; exact h
theorem m_window_34 {Q : Int → jx_St → Prop} {K : Int → Prop} {σ μ : jx_St} {a b c d e : Int} (hI : Inv σ) (hA : Ag σ μ) (hw : Wn a b c d) (h : K (tbF σ (bo a b c d) 31)) : jx_lp (fun B v => wp_M_window_34 Q a b c d e K μ B v.1 v.2) (0, 0) := by
  refine jx_loop (fun v => 0 ≤ v.2 ∧ v.2 ≤ 31 ∧ v.1 = tbF σ (bo a b c d) v.2.toNat) (fun v => (31 - v.2).toNat) (fun B v hJ hB => ?_) ⟨Int.le_refl _, by dsimp only; omega, rfl⟩
  obtain ⟨s, i⟩ := v
  obtain ⟨a1, a2, a3⟩ := hJ
  dsimp only at a1 a2 a3 ⊢
  refine ⟨jx_inR (by omega) (by omega), fun q => ?_, fun q => ?_⟩
  · have hb : nb i := ⟨a1, q⟩
    have same : toF (σ 0 i) (bo a b c d) = 0 → B (jx_or s 0, i + 1) := fun z => hB _ ⟨by dsimp only; omega, by dsimp only; omega, by dsimp only; rw [tbF_succ a1, if_pos z, a3, or_0 (tbF_R _ _ _)]⟩ (by dsimp only; omega)
    by_cases y : σ 0 i = -1
    · exact m_there_f hA hb y (c0 (same (by rw [y]; unfold toF; rw [if_pos (Or.inl rfl)])))
    · have hs : sdk σ μ i 0 := ⟨fun _ => ⟨hb, y⟩, fun z => absurd rfl z⟩
      refine m_there_t hA hb y (c1 (m_meets hA hs (R_lit 0 (by decide)) (by rw [hv_0]; exact hI.vb hb y) hw ?_))
      rw [hv_0]
      refine ⟨toF_R _ _, fun z => same z, fun z => hB _ ⟨by dsimp only; omega, by dsimp only; omega, ?_⟩ (by dsimp only; omega)⟩
      dsimp only; rw [tbF_succ a1, if_neg z, a3]
  · rw [a3, show i = 31 by omega]; exact h
theorem m_window_90 {Q : Int → jx_St → Prop} {K : Int → Prop} {σ μ : jx_St} {a b c d e l6 : Int} (hI : Inv σ) (hA : Ag σ μ) (hL : La σ μ) (hw : Wn a b c d) (h : K (smL (gD σ (gTo σ (bo a b c d))) nds)) : jx_lp (fun B v => wp_M_window_90 Q a b c d e K μ l6 B v.1 v.2) (0, 0) := by
  have hW := hI.1
  refine jx_loop (fun v => 0 ≤ v.2 ∧ v.2 ≤ 40 ∧ v.1 = smL (gD σ (gTo σ (bo a b c d))) (up v.2)) (fun v => (40 - v.2).toNat) (fun B v hJ hB => ?_) ⟨Int.le_refl _, by dsimp only; omega, rfl⟩
  obtain ⟨s, i⟩ := v
  obtain ⟨a1, a2, a3⟩ := hJ
  dsimp only at a1 a2 a3 ⊢
  refine ⟨jx_inR (by omega) (by omega), fun q => m_levelOf hA a1 q ?_, fun q => ?_⟩
  · by_cases c2 : i < 32
    · have hn : nd i := ⟨a1, c2⟩
      rw [if_pos c2]
      have nxt : ∀ t, t = gD σ (gTo σ (bo a b c d)) i → B (s + t, i + 1) := fun t ht => hB _ ⟨by dsimp only; omega, by dsimp only; omega, by dsimp only; rw [up_in a1 c2, a3, ht]⟩ (by dsimp only; omega)
      refine ⟨lvR hW hn, fun z => nxt 0 (by unfold gD; rw [if_pos z]), fun z => ?_⟩
      have hl : lvn σ i := ⟨hn, by rcases hW.2.1 i hn with y | y; exact absurd y z; exact y.1⟩
      have s5 := hW.sh.1 i hl
      refine m_manyOf hA hl ⟨jx_inR (by omega) (by omega), fun y => nxt 0 ?_, fun y => m_meets hA (sdk_node hL hl (by omega)) (R_lit 1 (by decide)) (by rw [hv_1]; exact vh_hull hW hI.2.1 hl (by omega)) hw ?_⟩
      · unfold gD gTo
        rw [if_neg z, hull_0 hW hI.2.1 hl y, if_pos (by unfold toF; rw [if_pos (Or.inl rfl)])]
      · rw [hv_1]
        refine ⟨toF_R _ _, fun x => nxt 0 ?_, fun x => nxt 1 ?_⟩
        · unfold gD gTo; rw [if_neg z, if_pos x]
        · unfold gD gTo; rw [if_neg z, if_neg x]
    · rw [if_neg c2]
      exact ⟨R_lit (-1) (by decide), fun _ => hB _ ⟨by dsimp only; omega, by dsimp only; omega, by dsimp only; rw [up_out (by omega), a3]; omega⟩ (by dsimp only; omega), fun z => absurd rfl z⟩
  · rw [a3, up_all (by omega)]; exact h
theorem step_window : st_window RRd := by
  intro sB sT sS sC sU sV sW sH sH0 sH1 sH2 sH3 sO sM a1 a2 a3 a4 a5 hR r1 r2 r3 r4 r5
  obtain ⟨hI, hA, h3⟩ := id hR.1
  by_cases w1 : Wn a1 a2 a3 a4
  · refine p_isWindow_t w1 (c1 ?_)
    by_cases w2 : 0 ≤ a5 ∧ a5 ≤ 1
    · refine p_upTo_t w2.1 w2.2 (R_lit 1 (by decide)) (c1 (p_of ?_))
      have wR : jx_R (bo a1 a2 a3 a4) := (vb_bo w1).R
      obtain ⟨b, ⟨b1, b2⟩, bg⟩ := g_lay hI.1 hI.2.1 hA
      have hAb : Ag sT b := hA.of (b1 0 (by decide) (by decide))
      have hRb : ∀ ψ', RRd sB sT ψ' sC sU sV sW sH sH0 sH1 sH2 sH3 sO b := fun ψ' => rr_of hR (fun z hz => b1 z (rr_ne hz rfl) (rr_ne hz rfl))
      have goM : ∀ Q : Int → jx_St → Prop, (jx_R a5 ∧ ((a5 = 0 → Q (tbF sT (bo a1 a2 a3 a4) 31) b) ∧ (¬ a5 = 0 → Q (smL (gD sT (gTo sT (bo a1 a2 a3 a4))) nds) b))) → wp_M_window Q sM a1 a2 a3 a4 a5 := fun Q k =>
        m_areSides_t w1 (c1 (m_in_t w2.1 w2.2 (R_lit 0 (by decide)) (R_lit 1 (by decide)) (c1 (bg _ (m_window_34 hI hAb w1 (m_window_90 hI hAb b2 w1 k))))))
      refine ⟨r5, fun e => ?_, fun e => ?_⟩
      · exact p_boxesTouching hI wR (goM _ ⟨r5, fun _ => ⟨rfl, hRb _⟩, fun z => absurd e z⟩)
      · exact p_nodesTouching hI.1 hI.2.1 wR (fun ψ' => goM _ ⟨r5, fun z => absurd z e, fun _ => ⟨rfl, hRb _⟩⟩)
    · exact p_upTo_f w2 r5 (R_lit 1 (by decide)) (c0 (m_areSides_t w1 (c1 (m_in_f w2 r5 (R_lit 0 (by decide)) (R_lit 1 (by decide)) (c0 ⟨rfl, hR⟩)))))
  · exact p_isWindow_f w1 r1 r2 r3 r4 (c0 (m_areSides_f w1 r1 r2 r3 r4 (c0 ⟨rfl, hR⟩)))
