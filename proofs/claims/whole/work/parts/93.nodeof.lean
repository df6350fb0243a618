/-! ===== the pure part: nodeOf ===== -/
def orL (f : Int → Int) : Nat → Int
  | 0 => 0
  | k + 1 => jx_or (orL f k) (jx_shl 1 (f (k : Int)))
theorem orL_succ {f : Int → Int} {i : Int} (h : 0 ≤ i) : orL f (i + 1).toNat = jx_or (orL f i.toNat) (jx_shl 1 (f i)) := by
  rw [show (i + 1).toNat = i.toNat + 1 by omega]
  simp only [orL]
  rw [toNat_cast h]
theorem p_boxesOfLeaf {Q : Int → Prop} {σ : jx_St} {n : Int} (hW : Ws σ [] []) (hn : lvn σ n) (h : Q (orL (th σ n) (σ 3 n).toNat)) : wp_T_boxesOfLeaf Q σ n := by
  have s5 := hW.sh.1 n hn
  refine jx_loop (fun v => 0 ≤ v.2 ∧ v.2 ≤ σ 3 n ∧ v.1 = orL (th σ n) v.2.toNat) (fun v => (8 - v.2).toNat) (fun B v hI hB => ?_) ⟨Int.le_refl _, s5.1, rfl⟩
  obtain ⟨a, i⟩ := v
  obtain ⟨a1, a2, a3⟩ := hI
  dsimp only at a1 a2 a3 ⊢
  refine p_sizeOf hn.1 ⟨jx_inR (by omega) (by omega), jx_inR (by omega) (by omega), fun q => p_thingAt hn.1 ⟨a1, by omega⟩ (hB _ ⟨by dsimp only; omega, by dsimp only; omega, ?_⟩ (by dsimp only; omega)), fun q => ?_⟩
  · dsimp only; rw [orL_succ a1, a3]
  · rw [a3, show i = σ 3 n by omega]; exact h
theorem m_124 {Q : Int → jx_St → Prop} {σ μ : jx_St} {n l1 l2 l3 : Int} (hW : Ws σ [] []) (hA : Ag σ μ) (hn : lvn σ n) (h : Q (orL (th σ n) (σ 3 n).toNat) μ) : jx_lp (fun B v => wp_M_nodeOf_124 Q l1 l2 l3 μ n (σ 3 n) B v.1 v.2) (0, 0) := by
  have s5 := hW.sh.1 n hn
  refine jx_loop (fun v => 0 ≤ v.2 ∧ v.2 ≤ σ 3 n ∧ v.1 = orL (th σ n) v.2.toNat) (fun v => (8 - v.2).toNat) (fun B v hI hB => ?_) ⟨Int.le_refl _, s5.1, rfl⟩
  obtain ⟨a, i⟩ := v
  obtain ⟨a1, a2, a3⟩ := hI
  dsimp only at a1 a2 a3 ⊢
  refine ⟨jx_inR (by omega) (by omega), jx_inR (by omega) (by omega), fun q => m_thing hA hn s5.2.1 a1 q (hB _ ⟨by dsimp only; omega, by dsimp only; omega, ?_⟩ (by dsimp only; omega)), fun q => ?_⟩
  · dsimp only; rw [orL_succ a1, a3]
  · rw [a3, show i = σ 3 n by omega]; exact h
theorem step_nodeOf : st_nodeOf RRd := by
  intro sB sT sS sC sU sV sW sH sH0 sH1 sH2 sH3 sO sM a1 a2 a3 hR r1 r2 r3
  obtain ⟨hI, hA, h3⟩ := id hR.1
  have l3 := hI.1.1.2.1
  have l0 := hI.1.1.1.2
  have hR1 : jx_R (sT 2 (sT 7 0) + 1) := jx_inR (by omega) (by omega)
  refine ⟨r1, fun q => ⟨r1, fun _ => ⟨rfl, hR⟩, fun z => absurd q z⟩, fun q => ⟨r2, fun y => ⟨r1, fun z => absurd z q, fun _ => ⟨r2, fun _ => ⟨rfl, hR⟩, fun z => absurd y z⟩⟩, fun y => ?_⟩⟩
  by_cases c3 : 0 ≤ a3 ∧ a3 ≤ 5
  · refine p_upTo_t c3.1 c3.2 (R_lit 5 (by decide)) (c1 (p_nodeAt hI.1 r1 (by omega) r2 (fun ψ' ψs S x hS hx => ?_) (fun ψ' ψs S hS hx => ?_)))
    · have hmem := List.mem_of_getElem? hx
      obtain ⟨m1, m2⟩ := mem_FS.mp hmem
      obtain ⟨hl, hle⟩ := hS.2.2.2.2.2 x m1
      rw [m2] at hle
      have s5 := hI.1.sh.1 x hl
      have sR : jx_R (sT 3 x) := jx_inR (by omega) (by omega)
      obtain ⟨b, ⟨b1, b2, b3, b4⟩, bg⟩ := g_layRow (l := a1) hI.1 hA hS ⟨by omega, hle⟩
      have hlen : a2 < b 27 0 := by
        have h1 := congrArg List.length b4
        rw [fl_len] at h1
        have := (List.getElem?_eq_some_iff.mp hx).1
        omega
      have hbx : b 25 a2 = x := by
        rw [← b4, fl_get (by omega), toNat_cast (by omega)] at hx
        exact Option.some.inj hx
      have hAb : Ag sT b := hA.of (b1 0 (by decide) (by decide) (by decide))
      have bR : RRd sB sT ψ' sC sU sV sW sH sH0 sH1 sH2 sH3 sO b := rr_of hR (fun z hz => b1 z (rr_ne hz rfl) (rr_ne hz rfl) (rr_ne hz rfl))
      have xne : ¬ x = -1 := by have := hl.1.1; omega
      -- the reference, up to the node
      have goM : ∀ (Q : Int → jx_St → Prop), (a3 < 4 → wp_M_lay (fun s => jx_R (sT 3 x) ∧ ((sT 3 x = 0 → Q (-1000004) s) ∧ (¬ sT 3 x = 0 → jx_B ((4 * x) + a3) 160 ∧ (Q (s 7 ((4 * x) + a3)) s)))) b) → (¬ a3 < 4 → jx_R a3 ∧ ((a3 = 4 → Q (sT 3 x) b) ∧ (¬ a3 = 4 → jx_R a1 ∧ ((a1 ≤ 0 → jx_lp (fun B v => wp_M_nodeOf_124 Q a1 a2 a3 b x (sT 3 x) B v.1 v.2) (0, 0)) ∧ (¬ a1 ≤ 0 → wp_M_thing (fun r => wp_M_placeOf (fun r s => Q r s) b r) b x 0))))) → wp_M_nodeOf Q sM a1 a2 a3 := fun Q k1 k2 => by
        refine ⟨r1, fun z => absurd z q, fun _ => ⟨r2, fun z => absurd z y, fun _ => m_in_t c3.1 c3.2 (R_lit 0 (by decide)) (R_lit 5 (by decide)) (c1 (m_levels hI hA ⟨r1, hR1, fun _ => bg _ ⟨r2, jx_inR (by omega) (by omega), fun _ => ⟨⟨by omega, by show a2 < 40; omega⟩, ?_⟩, fun z => absurd hlen z⟩, fun z => absurd (by omega) z⟩))⟩⟩
        rw [hbx]
        exact m_manyOf hAb hl ⟨r3, k1, k2⟩
      refine ⟨hl.1.R, fun z => absurd z xne, fun _ => p_sizeOf hl.1 ⟨r3, fun e4 => ?_, fun n4 => ⟨r3, fun e5 => ⟨r1, fun e0 => ?_, fun e0 => ?_⟩, fun n5 => ⟨sR, fun es => ?_, fun es => ?_⟩⟩⟩⟩
      · exact goM _ (fun z => absurd z (by omega)) (fun _ => ⟨r3, fun _ => ⟨rfl, bR⟩, fun z => absurd e4 z⟩)
      · refine p_boxesOfLeaf hI.1 hl ?_
        exact goM _ (fun z => absurd z (by omega)) (fun _ => ⟨r3, fun z => absurd z n4, fun _ => ⟨r1, fun _ => m_124 hI.1 hAb hl ⟨rfl, bR⟩, fun z => absurd (by omega) z⟩⟩)
      · have hsz := ((hI.1.2.2.2.1 x hl).2.2.resolve_left List.not_mem_nil).2 (by omega)
        have hkid := hI.1.kid hl (by omega) (th_kids (σ := sT) (n := x) (k := 0) (Int.le_refl _) (by omega))
        refine p_thingAt hl.1 ⟨Int.le_refl _, by decide⟩ (p_placeOf hI.1 hkid.1 (fun ψ2 ψt S2 A B hS2 hs => ?_))
        obtain ⟨d, hd, hg⟩ := m_placeOf hI.1 hAb hS2 hkid.1 hs
        exact goM _ (fun z => absurd z (by omega)) (fun _ => ⟨r3, fun z => absurd z n4, fun _ => ⟨r1, fun z => absurd z (by omega), fun _ => m_thing hAb hl s5.2.1 (Int.le_refl _) (by omega) (hg _ ⟨rfl, rr_of bR (fun z hz => hd z (rr_ne hz rfl) (rr_ne hz rfl) (rr_ne hz rfl))⟩)⟩⟩)
      · obtain ⟨d, ⟨d1, d2⟩, dg⟩ := g_lay hI.1 hI.2.1 hAb
        exact goM _ (fun _ => dg _ ⟨sR, fun _ => ⟨rfl, rr_of bR (fun z hz => d1 z (rr_ne hz rfl) (rr_ne hz rfl))⟩, fun z => absurd es z⟩) (fun z => absurd (by omega) z)
      · obtain ⟨d, ⟨d1, d2⟩, dg⟩ := g_lay hI.1 hI.2.1 hAb
        have xn := hl.1.1
        have xm := hl.1.2
        refine p_hull (jx_inR (by omega) (by omega)) (by unfold tv; rw [if_neg (by omega)]; exact hl.1) (p_side ?_)
        have eh : hv sT x (a1 + 1) = sT 4 x := by unfold hv; rw [if_neg (by omega)]
        rw [eh]
        refine goM _ (fun h4 => dg _ ⟨sR, fun z => absurd z es, fun _ => ⟨⟨by omega, by show 4 * x + a3 < 160; omega⟩, ?_⟩⟩) (fun z => absurd (by omega) z)
        exact ⟨((d2 x hl).1 (by omega) a3 c3.1 h4).symm, rr_of bR (fun z hz => d1 z (rr_ne hz rfl) (rr_ne hz rfl))⟩
    · refine ⟨jx_inR (by decide) (by decide), fun _ => ?_, fun z => absurd rfl z⟩
      refine ⟨r1, fun z => absurd z q, fun _ => ⟨r2, fun z => absurd z y, fun _ => m_in_t c3.1 c3.2 (R_lit 0 (by decide)) (R_lit 5 (by decide)) (c1 (m_levels hI hA ⟨r1, hR1, fun hlt => ?_, fun _ => ⟨rfl, hR⟩⟩))⟩⟩
      obtain ⟨b, ⟨b1, b2, b3, b4⟩, bg⟩ := g_layRow (l := a1) hI.1 hA hS ⟨by omega, by omega⟩
      have hlen : ¬ a2 < b 27 0 := by
        have h1 := congrArg List.length b4
        rw [fl_len] at h1
        have := List.getElem?_eq_none_iff.mp hx
        omega
      exact bg _ ⟨r2, jx_inR (by omega) (by omega), fun z => absurd z hlen, fun _ => ⟨rfl, rr_of hR (fun z hz => b1 z (rr_ne hz rfl) (rr_ne hz rfl) (rr_ne hz rfl))⟩⟩
  · exact p_upTo_f c3 r3 (R_lit 5 (by decide)) (c0 ⟨r1, fun z => absurd z q, fun _ => ⟨r2, fun z => absurd z y, fun _ => m_in_f c3 r3 (R_lit 0 (by decide)) (R_lit 5 (by decide)) (c0 ⟨rfl, hR⟩)⟩⟩)
