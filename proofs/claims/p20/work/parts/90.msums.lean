/-! ===== the pure part: sums over all nodes, in the reference ===== -/
theorem m_in {Q : Int → Prop} {v a b : Int} (hv : jx_R v) (ha : jx_R a) (hb : jx_R b) (h : Q (if a ≤ v ∧ v ≤ b then 1 else 0)) : wp_M_in Q v a b := by
  refine ⟨hv, ha, fun q => ?_, fun q => ⟨hv, hb, fun y => ?_, fun y => ?_⟩⟩
  · rw [if_neg (by omega)] at h; exact h
  · rw [if_pos (by omega)] at h; exact h
  · rw [if_neg (by omega)] at h; exact h
theorem lvR {σ : jx_St} (hW : Ws σ [] []) {n : Int} (hn : nd n) : jx_R (σ 2 n) := by
  rcases hW.2.1 n hn with z | z
  · rw [z]; exact jx_inR (by decide) (by decide)
  · exact jx_inR (by omega) (by have := hW.1.2.1; omega)
def gTh (σ : jx_St) (t : Int) : Int → Int := fun n => if σ 2 n ≤ t then 1 else 0
theorem m_nodeMany {Q : Int → Prop} {σ μ : jx_St} {t : Int} (hW : Ws σ [] []) (hA : Ag σ μ) (ht : 0 ≤ t ∧ t ≤ 100) (h : Q (smL (gD σ (gTh σ t)) nds)) : wp_M_nodeMany Q μ t := by
  refine jx_loop (fun v => 0 ≤ v.2 ∧ v.2 ≤ 40 ∧ v.1 = smL (gD σ (gTh σ t)) (up v.2)) (fun v => (40 - v.2).toNat) (fun B v hI hB => ?_) ⟨Int.le_refl _, by dsimp only; omega, rfl⟩
  obtain ⟨a, i⟩ := v
  obtain ⟨a1, a2, a3⟩ := hI
  dsimp only at a1 a2 a3 ⊢
  refine ⟨jx_inR (by omega) (by omega), fun q => m_levelOf hA a1 q ?_, fun q => ?_⟩
  · by_cases c : i < 32
    · have hn : nd i := ⟨a1, c⟩
      have lR := lvR hW hn
      rw [if_pos c]
      refine m_in lR (jx_inR (by decide) (by decide)) (jx_inR (by omega) (by omega)) ?_
      have l1 := hW.2.1 i hn
      by_cases d : 0 ≤ σ 2 i ∧ σ 2 i ≤ t
      · rw [if_pos d]
        refine ⟨jx_inR (by decide) (by decide), fun z => absurd z (by decide), fun _ => hB _ ⟨by dsimp only; omega, by dsimp only; omega, ?_⟩ (by dsimp only; omega)⟩
        dsimp only
        rw [up_in a1 c, a3]
        unfold gD gTh
        rw [if_neg (show ¬ σ 2 i = -1 by omega), if_pos d.2]
      · rw [if_neg d]
        refine ⟨jx_inR (by decide) (by decide), fun _ => hB _ ⟨by dsimp only; omega, by dsimp only; omega, ?_⟩ (by dsimp only; omega), fun z => absurd rfl z⟩
        dsimp only
        rw [up_in a1 c, a3]
        unfold gD gTh
        by_cases e : σ 2 i = -1
        · rw [if_pos e]
        · rw [if_neg e, if_neg (by omega)]
    · rw [if_neg c]
      refine m_in (jx_inR (by decide) (by decide)) (jx_inR (by decide) (by decide)) (jx_inR (by omega) (by omega)) ?_
      rw [if_neg (by omega)]
      refine ⟨jx_inR (by decide) (by decide), fun _ => hB _ ⟨by dsimp only; omega, by dsimp only; omega, ?_⟩ (by dsimp only; omega), fun z => absurd rfl z⟩
      dsimp only
      rw [up_out (by omega), a3]; omega
  · rw [a3, up_all (by omega)]; exact h
theorem hull_0 {σ : jx_St} {P : List (Int × Int)} {E : List Int} (hW : Ws σ P E) (hH : Hs σ []) {n : Int} (hn : lvn σ n) (h : σ 3 n ≤ 0) : σ 4 n = -1 := by
  have := hH.2 n hn List.not_mem_nil
  unfold loc at this
  have h0 := (hW.sh.1 n hn).1
  rw [this, show (σ 3 n).toNat = 0 by omega]
  rfl
theorem sdk_node {σ μ : jx_St} (hL : La σ μ) {n : Int} (hn : lvn σ n) (h : 1 ≤ σ 3 n) : sdk σ μ n 1 := ⟨fun z => absurd z (by decide), fun _ => ⟨hn.1, (hL n hn).1 h⟩⟩
theorem hv_1 (σ : jx_St) (x : Int) : hv σ x 1 = σ 4 x := by unfold hv; rw [if_neg (by decide)]
theorem hv_0 (σ : jx_St) (x : Int) : hv σ x 0 = σ 0 x := by unfold hv; rw [if_pos rfl]
theorem g_areas {σ μ : jx_St} (hW : Ws σ [] []) (hH : Hs σ []) (hA : Ag σ μ) : ∃ b : jx_St, (∀ z, z ≠ 7 → z ≠ 8 → z ≠ 9 → b z = μ z) ∧ ∀ (Q : Int → jx_St → Prop), Q (smL (gD σ (gAr σ)) nds) b → wp_M_areas Q μ := by
  obtain ⟨μ1, ⟨l1, l2⟩, lg⟩ := g_lay hW hH hA
  have main := go_loop (γ := Unit) (F := fun (_ : Unit) (K : jx_St × Int → Prop) B (v : jx_St × Int × Int) => wp_M_areas_8 (fun r s => K (s, r)) B v.1 v.2.1 v.2.2) (fun v => 0 ≤ v.2.2 ∧ v.2.2 ≤ 40 ∧ (∀ z, z ≠ 9 → v.1 z = μ1 z) ∧ v.2.1 = smL (gD σ (gAr σ)) (up v.2.2)) (fun v => (40 - v.2.2).toNat) (fun b : jx_St × Int => (∀ z, z ≠ 9 → b.1 z = μ1 z) ∧ b.2 = smL (gD σ (gAr σ)) nds) (fun v hI => ?_) (a := (μ1, 0, 0)) ⟨Int.le_refl _, by dsimp only; omega, fun _ _ => rfl, rfl⟩
  · obtain ⟨⟨b, r⟩, ⟨h1, h2⟩, hg⟩ := main
    dsimp only at h1 h2
    refine ⟨b, fun z z7 z8 z9 => by rw [h1 z z9, l1 z z7 z8], fun Q hQ => lg _ ?_⟩
    exact hg () (fun w => Q w.2 w.1) (by dsimp only; rw [h2]; exact hQ)
  · obtain ⟨ν, s, i⟩ := v
    obtain ⟨a1, a2, a3, a4⟩ := hI
    dsimp only at a1 a2 a3 a4 ⊢
    have iR : jx_R i := jx_inR (by omega) (by omega)
    have hA1 : Ag σ ν := hA.of (by rw [a3 0 (by decide), l1 0 (by decide) (by decide)])
    have e7 : ν 7 = μ1 7 := a3 7 (by decide)
    have e8 : ν 8 = μ1 8 := a3 8 (by decide)
    have hL : La σ ν := fun n hn => by
      have := l2 n hn
      unfold Lai at this ⊢
      rw [e7, e8]; exact this
    by_cases c : i < 40
    · right
      by_cases c2 : i < 32
      · have hn : nd i := ⟨a1, c2⟩
        have lR := lvR hW hn
        by_cases d : σ 2 i = 0
        · have hl : lvn σ i := ⟨hn, by omega⟩
          have s5 := hW.sh.1 i hl
          have sR : jx_R (σ 3 i) := jx_inR (by omega) (by omega)
          by_cases e : σ 3 i ≤ 0
          · refine ⟨(ν, s, i + 1), ⟨by dsimp only; omega, by dsimp only; omega, a3, ?_⟩, by dsimp only; omega, fun _ K B hB => ⟨iR, fun _ => m_level hA1 hn ⟨lR, fun _ => m_manyOf hA1 hl ⟨sR, fun _ => hB, fun z => absurd e z⟩, fun z => absurd d z⟩, fun z => absurd c z⟩⟩
            dsimp only
            rw [up_in a1 c2, a4]
            unfold gD gAr
            rw [if_neg (show ¬ σ 2 i = -1 by omega), if_pos d, hull_0 hW hH hl e]
            have : arF (-1) = 0 := by unfold arF; rw [if_pos rfl]
            rw [this]; omega
          · obtain ⟨υ, ⟨x1, x2⟩, xg⟩ := g_takes_one (x := i) (l := 1) hA1 (sdk_node hL hl (by omega)) (jx_inR (by decide) (by decide))
            rw [hv_1] at x2
            have ea := ms_area x2 (vh_hull hW hH hl (by omega))
            refine ⟨(υ, s + arF (σ 4 i), i + 1), ⟨by dsimp only; omega, by dsimp only; omega, fun z hz => (x1 z hz).trans (a3 z hz), ?_⟩, by dsimp only; omega, fun _ K B hB => ⟨iR, fun _ => m_level hA1 hn ⟨lR, fun _ => m_manyOf hA1 hl ⟨sR, fun z => absurd z e, fun _ => xg _ ?_⟩, fun z => absurd d z⟩, fun z => absurd c z⟩⟩
            · dsimp only
              rw [up_in a1 c2, a4]
              unfold gD gAr
              rw [if_neg (show ¬ σ 2 i = -1 by omega), if_pos d]
            · rw [ea]; exact hB
        · refine ⟨(ν, s, i + 1), ⟨by dsimp only; omega, by dsimp only; omega, a3, ?_⟩, by dsimp only; omega, fun _ K B hB => ⟨iR, fun _ => m_level hA1 hn ⟨lR, fun z => absurd z d, fun _ => hB⟩, fun z => absurd c z⟩⟩
          dsimp only
          rw [up_in a1 c2, a4]
          unfold gD gAr
          rw [if_neg d]
          split <;> omega
      · refine ⟨(ν, s, i + 1), ⟨by dsimp only; omega, by dsimp only; omega, a3, ?_⟩, by dsimp only; omega, fun _ K B hB => ⟨iR, fun _ => m_levelOf hA1 a1 c (by rw [if_neg c2]; exact ⟨jx_inR (by decide) (by decide), fun z => absurd z (by decide), fun _ => hB⟩), fun z => absurd c z⟩⟩
        dsimp only
        rw [up_out (by omega), a4]
    · left
      exact ⟨(ν, s), ⟨a3, by dsimp only; rw [a4, up_all (by omega)]⟩, fun _ K B hK => ⟨iR, fun z => absurd z c, fun _ => hK⟩⟩
theorem m_meets {Q : Int → Prop} {σ μ : jx_St} {x l a b c d : Int} (hA : Ag σ μ) (hs : sdk σ μ x l) (hl : jx_R l) (hx : vb (hv σ x l)) (hw : 0 ≤ a ∧ 0 ≤ b ∧ a ≤ c ∧ b ≤ d ∧ c ≤ 99 ∧ d ≤ 99) (h : Q (toF (hv σ x l) (bo a b c d))) : wp_M_meets Q μ x l a b c d := by
  obtain ⟨e0, e1, e2, e3, e4⟩ := bs_bo (a := a) (b := b) (c := c) (d := d) ⟨by omega, by omega⟩ ⟨by omega, by omega⟩ ⟨by omega, by omega⟩ ⟨by omega, by omega⟩
  have hx0 := hx.1
  have hor : ¬ (hv σ x l = -1 ∨ bo a b c d = -1) := by omega
  unfold toF at h
  rw [if_neg hor, e0, e1, e2, e3] at h
  have aR : jx_R a := jx_inR (by omega) (by omega)
  have bR : jx_R b := jx_inR (by omega) (by omega)
  have cR : jx_R c := jx_inR (by omega) (by omega)
  have dR : jx_R d := jx_inR (by omega) (by omega)
  refine m_side hA hs hl (Int.le_refl _) (by decide) ⟨bs_R _ _, cR, fun q => ?_, fun q => ?_⟩
  · refine m_side hA hs hl (by decide) (by decide) ⟨bs_R _ _, aR, fun q2 => ?_, fun q2 => ?_⟩
    · rw [if_neg (by omega)] at h; exact h
    · refine m_side hA hs hl (by decide) (by decide) ⟨bs_R _ _, dR, fun q3 => ?_, fun q3 => ?_⟩
      · refine m_side hA hs hl (by decide) (by decide) ⟨bs_R _ _, bR, fun q4 => ?_, fun q4 => ?_⟩
        · rw [if_neg (by omega)] at h; exact h
        · rw [if_pos (by omega)] at h; exact h
      · rw [if_neg (by omega)] at h; exact h
  · rw [if_neg (by omega)] at h; exact h
theorem m_distance {Q : Int → Prop} {σ μ : jx_St} {x l p q : Int} (hA : Ag σ μ) (hs : sdk σ μ x l) (hl : jx_R l) (hp : 0 ≤ p ∧ p ≤ 99) (hq : 0 ≤ q ∧ q ≤ 99) (h : Q (diF (hv σ x l) p q)) : wp_M_distance Q μ x l p q := by
  have a0 := bs_ge (hv σ x l) 0
  have a1 := bs_ge (hv σ x l) 1
  have a2 := bs_ge (hv σ x l) 2
  have a3 := bs_ge (hv σ x l) 3
  have b0 := bs_lt (hv σ x l) 0
  have b1 := bs_lt (hv σ x l) 1
  have b2 := bs_lt (hv σ x l) 2
  have b3 := bs_lt (hv σ x l) 3
  refine m_side hA hs hl (Int.le_refl _) (by decide) (m_side hA hs hl (by decide) (by decide) (m_most (jx_inR (by omega) (by omega)) (jx_inR (by omega) (by omega)) (m_most (jx_inR (by decide) (by decide)) (jx_inR (by omega) (by omega)) ?_)))
  exact m_side hA hs hl (by decide) (by decide) (m_side hA hs hl (by decide) (by decide) (m_most (jx_inR (by omega) (by omega)) (jx_inR (by omega) (by omega)) (m_most (jx_inR (by decide) (by decide)) (jx_inR (by omega) (by omega)) h)))
