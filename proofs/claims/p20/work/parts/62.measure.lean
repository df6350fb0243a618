/-! ===== the pure part: the reference measures ===== -/
def Ms (μ : jx_St) (q : Nat) (c : Int) : Prop := ∀ k, 0 ≤ k → k < 4 → μ q k = bs c k
theorem g_takes_one {σ μ : jx_St} {x l : Int} (hA : Ag σ μ) (hs : sdk σ μ x l) (hl : jx_R l) : ∃ b : jx_St, ((∀ z, z ≠ 9 → b z = μ z) ∧ Ms b 9 (hv σ x l)) ∧ ∀ (Q : jx_St → Prop), Q b → wp_M_takes_one Q μ x l := by
  have loop : ∃ b : jx_St, ((∀ z, z ≠ 9 → b z = μ z) ∧ Ms b 9 (hv σ x l)) ∧ ∀ (g : Unit) (K : jx_St → Prop), K b → jx_lp (fun B v => wp_M_takes_one_3 K x l B v.1 v.2) (μ, 0) := by
    refine go_loop (γ := Unit) (F := fun _ K B (v : jx_St × Int) => wp_M_takes_one_3 K x l B v.1 v.2) (fun v => 0 ≤ v.2 ∧ v.2 ≤ 4 ∧ (∀ z, z ≠ 9 → v.1 z = μ z) ∧ ∀ k, 0 ≤ k → k < v.2 → v.1 9 k = bs (hv σ x l) k) (fun v => (4 - v.2).toNat) _ (fun v hI => ?_) ⟨Int.le_refl _, by show (0 : Int) ≤ 4; decide, fun _ _ => rfl, fun k k0 k1 => by exfalso; dsimp only at k1; omega⟩
    obtain ⟨μ1, k⟩ := v
    obtain ⟨a1, a2, a3, a4⟩ := hI
    dsimp only at a1 a2 a3 a4 ⊢
    by_cases q : k < 4
    · right
      refine ⟨(jx_su μ1 9 k (bs (hv σ x l) k), k + 1), ⟨by dsimp only; omega, by dsimp only; omega, fun z hz => by funext j; dsimp only; rw [jx_su_ne hz, a3 z hz], fun j j0 j1 => ?_⟩, by dsimp only; omega, fun g K B hB => ⟨jx_inR (by omega) (by omega), fun _ => m_side (hA.of (a3 0 (by decide))) (hs.of (fun _ j _ _ => by rw [a3 7 (by decide)])) hl a1 q ⟨⟨a1, q⟩, hB⟩, fun z => absurd q z⟩⟩
      dsimp only at j1 ⊢
      rw [jx_su_same]
      by_cases z : j = k
      · rw [if_pos z, z]
      · rw [if_neg z]; exact a4 j j0 (by omega)
    · left
      exact ⟨μ1, ⟨a3, fun k' k0 k1 => a4 k' k0 (by omega)⟩, fun g K B hK => ⟨jx_inR (by omega) (by omega), fun z => absurd z q, fun _ => hK⟩⟩
  obtain ⟨b, hb, g⟩ := loop
  exact ⟨b, hb, fun Q hQ => g () Q hQ⟩
theorem g_widens_one {σ μ : jx_St} {x l c : Int} (hA : Ag σ μ) (hs : sdk σ μ x l) (hl : jx_R l) (hc : vb c) (hx : vb (hv σ x l)) (hm : Ms μ 9 c) : ∃ b : jx_St, ((∀ z, z ≠ 9 → b z = μ z) ∧ Ms b 9 (ar c (hv σ x l))) ∧ ∀ (Q : jx_St → Prop), Q b → wp_M_widens_one Q μ x l := by
  have loop : ∃ b : jx_St, ((∀ z, z ≠ 9 → b z = μ z) ∧ Ms b 9 (ar c (hv σ x l))) ∧ ∀ (g : Unit) (K : jx_St → Prop), K b → jx_lp (fun B v => wp_M_widens_one_3 K x l B v.1 v.2) (μ, 0) := by
    refine go_loop (γ := Unit) (F := fun _ K B (v : jx_St × Int) => wp_M_widens_one_3 K x l B v.1 v.2) (fun v => 0 ≤ v.2 ∧ v.2 ≤ 4 ∧ (∀ z, z ≠ 9 → v.1 z = μ z) ∧ (∀ k, v.2 ≤ k → k < 4 → v.1 9 k = μ 9 k) ∧ ∀ k, 0 ≤ k → k < v.2 → v.1 9 k = bs (ar c (hv σ x l)) k) (fun v => (4 - v.2).toNat) _ (fun v hI => ?_) ⟨Int.le_refl _, by show (0 : Int) ≤ 4; decide, fun _ _ => rfl, fun _ _ _ => rfl, fun k k0 k1 => by exfalso; dsimp only at k1; omega⟩
    obtain ⟨μ1, k⟩ := v
    obtain ⟨a1, a2, a3, a5, a4⟩ := hI
    dsimp only at a1 a2 a3 a4 a5 ⊢
    by_cases q : k < 4
    · right
      have e : μ1 9 k = bs c k := by rw [a5 k (Int.le_refl _) q]; exact hm k a1 q
      have es := sw_ar hc hx a1 q
      refine ⟨(jx_su μ1 9 k (bs (ar c (hv σ x l)) k), k + 1), ⟨by dsimp only; omega, by dsimp only; omega, fun z hz => by funext j; dsimp only; rw [jx_su_ne hz, a3 z hz], fun j j0 j1 => ?_, fun j j0 j1 => ?_⟩, by dsimp only; omega, fun g K B hB => ⟨jx_inR (by omega) (by omega), fun _ => m_side (hA.of (a3 0 (by decide))) (hs.of (fun _ j _ _ => by rw [a3 7 (by decide)])) hl a1 q ⟨jx_inR (by omega) (by omega), fun z => ⟨⟨a1, q⟩, m_least (by rw [e]; exact bs_R _ _) (bs_R _ _) ⟨⟨a1, q⟩, ?_⟩⟩, fun z => ⟨⟨a1, q⟩, m_most (by rw [e]; exact bs_R _ _) (bs_R _ _) ⟨⟨a1, q⟩, ?_⟩⟩⟩, fun z => absurd q z⟩⟩
      · dsimp only at j0 ⊢
        rw [jx_su_same, if_neg (by omega)]
        exact a5 j (by omega) j1
      · dsimp only at j1 ⊢
        rw [jx_su_same]
        by_cases z : j = k
        · rw [if_pos z, z]
        · rw [if_neg z]; exact a4 j j0 (by omega)
      · unfold sw at es
        rw [if_pos z] at es
        rw [e, ← es]
        exact hB
      · unfold sw at es
        rw [if_neg z] at es
        rw [e, ← es]
        exact hB
    · left
      exact ⟨μ1, ⟨a3, fun k' k0 k1 => a4 k' k0 (by omega)⟩, fun g K B hK => ⟨jx_inR (by omega) (by omega), fun z => absurd z q, fun _ => hK⟩⟩
  obtain ⟨b, hb, g⟩ := loop
  exact ⟨b, hb, fun Q hQ => g () Q hQ⟩
theorem g_takes_two {σ μ : jx_St} {x l : Int} (hA : Ag σ μ) (hs : sdk σ μ x l) (hl : jx_R l) : ∃ b : jx_St, ((∀ z, z ≠ 10 → b z = μ z) ∧ Ms b 10 (hv σ x l)) ∧ ∀ (Q : jx_St → Prop), Q b → wp_M_takes_two Q μ x l := by
  have loop : ∃ b : jx_St, ((∀ z, z ≠ 10 → b z = μ z) ∧ Ms b 10 (hv σ x l)) ∧ ∀ (g : Unit) (K : jx_St → Prop), K b → jx_lp (fun B v => wp_M_takes_two_3 K x l B v.1 v.2) (μ, 0) := by
    refine go_loop (γ := Unit) (F := fun _ K B (v : jx_St × Int) => wp_M_takes_two_3 K x l B v.1 v.2) (fun v => 0 ≤ v.2 ∧ v.2 ≤ 4 ∧ (∀ z, z ≠ 10 → v.1 z = μ z) ∧ ∀ k, 0 ≤ k → k < v.2 → v.1 10 k = bs (hv σ x l) k) (fun v => (4 - v.2).toNat) _ (fun v hI => ?_) ⟨Int.le_refl _, by show (0 : Int) ≤ 4; decide, fun _ _ => rfl, fun k k0 k1 => by exfalso; dsimp only at k1; omega⟩
    obtain ⟨μ1, k⟩ := v
    obtain ⟨a1, a2, a3, a4⟩ := hI
    dsimp only at a1 a2 a3 a4 ⊢
    by_cases q : k < 4
    · right
      refine ⟨(jx_su μ1 10 k (bs (hv σ x l) k), k + 1), ⟨by dsimp only; omega, by dsimp only; omega, fun z hz => by funext j; dsimp only; rw [jx_su_ne hz, a3 z hz], fun j j0 j1 => ?_⟩, by dsimp only; omega, fun g K B hB => ⟨jx_inR (by omega) (by omega), fun _ => m_side (hA.of (a3 0 (by decide))) (hs.of (fun _ j _ _ => by rw [a3 7 (by decide)])) hl a1 q ⟨⟨a1, q⟩, hB⟩, fun z => absurd q z⟩⟩
      dsimp only at j1 ⊢
      rw [jx_su_same]
      by_cases z : j = k
      · rw [if_pos z, z]
      · rw [if_neg z]; exact a4 j j0 (by omega)
    · left
      exact ⟨μ1, ⟨a3, fun k' k0 k1 => a4 k' k0 (by omega)⟩, fun g K B hK => ⟨jx_inR (by omega) (by omega), fun z => absurd z q, fun _ => hK⟩⟩
  obtain ⟨b, hb, g⟩ := loop
  exact ⟨b, hb, fun Q hQ => g () Q hQ⟩
theorem g_widens_two {σ μ : jx_St} {x l c : Int} (hA : Ag σ μ) (hs : sdk σ μ x l) (hl : jx_R l) (hc : vb c) (hx : vb (hv σ x l)) (hm : Ms μ 10 c) : ∃ b : jx_St, ((∀ z, z ≠ 10 → b z = μ z) ∧ Ms b 10 (ar c (hv σ x l))) ∧ ∀ (Q : jx_St → Prop), Q b → wp_M_widens_two Q μ x l := by
  have loop : ∃ b : jx_St, ((∀ z, z ≠ 10 → b z = μ z) ∧ Ms b 10 (ar c (hv σ x l))) ∧ ∀ (g : Unit) (K : jx_St → Prop), K b → jx_lp (fun B v => wp_M_widens_two_3 K x l B v.1 v.2) (μ, 0) := by
    refine go_loop (γ := Unit) (F := fun _ K B (v : jx_St × Int) => wp_M_widens_two_3 K x l B v.1 v.2) (fun v => 0 ≤ v.2 ∧ v.2 ≤ 4 ∧ (∀ z, z ≠ 10 → v.1 z = μ z) ∧ (∀ k, v.2 ≤ k → k < 4 → v.1 10 k = μ 10 k) ∧ ∀ k, 0 ≤ k → k < v.2 → v.1 10 k = bs (ar c (hv σ x l)) k) (fun v => (4 - v.2).toNat) _ (fun v hI => ?_) ⟨Int.le_refl _, by show (0 : Int) ≤ 4; decide, fun _ _ => rfl, fun _ _ _ => rfl, fun k k0 k1 => by exfalso; dsimp only at k1; omega⟩
    obtain ⟨μ1, k⟩ := v
    obtain ⟨a1, a2, a3, a5, a4⟩ := hI
    dsimp only at a1 a2 a3 a4 a5 ⊢
    by_cases q : k < 4
    · right
      have e : μ1 10 k = bs c k := by rw [a5 k (Int.le_refl _) q]; exact hm k a1 q
      have es := sw_ar hc hx a1 q
      refine ⟨(jx_su μ1 10 k (bs (ar c (hv σ x l)) k), k + 1), ⟨by dsimp only; omega, by dsimp only; omega, fun z hz => by funext j; dsimp only; rw [jx_su_ne hz, a3 z hz], fun j j0 j1 => ?_, fun j j0 j1 => ?_⟩, by dsimp only; omega, fun g K B hB => ⟨jx_inR (by omega) (by omega), fun _ => m_side (hA.of (a3 0 (by decide))) (hs.of (fun _ j _ _ => by rw [a3 7 (by decide)])) hl a1 q ⟨jx_inR (by omega) (by omega), fun z => ⟨⟨a1, q⟩, m_least (by rw [e]; exact bs_R _ _) (bs_R _ _) ⟨⟨a1, q⟩, ?_⟩⟩, fun z => ⟨⟨a1, q⟩, m_most (by rw [e]; exact bs_R _ _) (bs_R _ _) ⟨⟨a1, q⟩, ?_⟩⟩⟩, fun z => absurd q z⟩⟩
      · dsimp only at j0 ⊢
        rw [jx_su_same, if_neg (by omega)]
        exact a5 j (by omega) j1
      · dsimp only at j1 ⊢
        rw [jx_su_same]
        by_cases z : j = k
        · rw [if_pos z, z]
        · rw [if_neg z]; exact a4 j j0 (by omega)
      · unfold sw at es
        rw [if_pos z] at es
        rw [e, ← es]
        exact hB
      · unfold sw at es
        rw [if_neg z] at es
        rw [e, ← es]
        exact hB
    · left
      exact ⟨μ1, ⟨a3, fun k' k0 k1 => a4 k' k0 (by omega)⟩, fun g K B hK => ⟨jx_inR (by omega) (by omega), fun z => absurd z q, fun _ => hK⟩⟩
  obtain ⟨b, hb, g⟩ := loop
  exact ⟨b, hb, fun Q hQ => g () Q hQ⟩
theorem ms_area {μ : jx_St} {q : Nat} {c : Int} (h : Ms μ q c) (hc : vb c) : jx_area (μ q) = arF c := by
  unfold jx_area arF
  rw [if_neg (fun e => by have := hc.1; omega), h 0 (by decide) (by decide), h 1 (by decide) (by decide), h 2 (by decide) (by decide), h 3 (by decide) (by decide)]
theorem m_common {Q : Int → Prop} {μ : jx_St} {a b : Int} (ha : vb a) (hb : vb b) (h1 : Ms μ 9 a) (h2 : Ms μ 10 b) (h : Q (coF a b)) : wp_M_common Q μ := by
  have p0 := ha.1
  have q0 := hb.1
  have ec : coF a b = if min (bs a 2) (bs b 2) - max (bs a 0) (bs b 0) ≤ 0 then 0 else if min (bs a 3) (bs b 3) - max (bs a 1) (bs b 1) ≤ 0 then 0 else (min (bs a 2) (bs b 2) - max (bs a 0) (bs b 0)) * (min (bs a 3) (bs b 3) - max (bs a 1) (bs b 1)) := by
    obtain ⟨_, _, p1, p2, p3, p4⟩ := ha
    obtain ⟨_, _, q1, q2, q3, q4⟩ := hb
    unfold coF toF
    rw [if_neg (by omega : ¬ (a = -1 ∨ b = -1))]
    by_cases t : bs a 0 ≤ bs b 2 ∧ bs b 0 ≤ bs a 2 ∧ bs a 1 ≤ bs b 3 ∧ bs b 1 ≤ bs a 3
    · rw [if_pos t, if_neg (by decide)]
      by_cases x : min (bs a 2) (bs b 2) - max (bs a 0) (bs b 0) ≤ 0
      · rw [if_pos x, show min (bs a 2) (bs b 2) - max (bs a 0) (bs b 0) = 0 by omega, Int.zero_mul]
      · rw [if_neg x]
        by_cases y : min (bs a 3) (bs b 3) - max (bs a 1) (bs b 1) ≤ 0
        · rw [if_pos y, show min (bs a 3) (bs b 3) - max (bs a 1) (bs b 1) = 0 by omega, Int.mul_zero]
        · rw [if_neg y]
    · rw [if_neg t, if_pos rfl]
      by_cases x : min (bs a 2) (bs b 2) - max (bs a 0) (bs b 0) ≤ 0
      · rw [if_pos x]
      · rw [if_neg x, if_pos (by omega)]
  rw [ec] at h
  have r := fun c k => bs_R c k
  have g := fun c k => bs_ge c k
  have l := fun c k => bs_lt c k
  have a0 := bs_ge a 0
  have a1 := bs_ge a 1
  have a2 := bs_ge a 2
  have a3 := bs_ge a 3
  have b0 := bs_ge b 0
  have b1 := bs_ge b 1
  have b2 := bs_ge b 2
  have b3 := bs_ge b 3
  have c0 := bs_lt a 0
  have c1 := bs_lt a 1
  have c2 := bs_lt a 2
  have c3 := bs_lt a 3
  have d0 := bs_lt b 0
  have d1 := bs_lt b 1
  have d2 := bs_lt b 2
  have d3 := bs_lt b 3
  unfold wp_M_common
  rw [h1 0 (by decide) (by decide), h1 1 (by decide) (by decide), h1 2 (by decide) (by decide), h1 3 (by decide) (by decide), h2 0 (by decide) (by decide), h2 1 (by decide) (by decide), h2 2 (by decide) (by decide), h2 3 (by decide) (by decide)]
  refine m_least (r _ _) (r _ _) (m_most (r _ _) (r _ _) (m_least (r _ _) (r _ _) (m_most (r _ _) (r _ _) ⟨jx_inR (by omega) (by omega), fun q => ?_, fun q => ⟨jx_inR (by omega) (by omega), fun q2 => ?_, fun q2 => ?_⟩⟩)))
  · rw [if_pos q] at h; exact h
  · rw [if_neg q, if_pos q2] at h; exact h
  · rw [if_neg q, if_neg q2] at h; exact h
theorem m_placeIn {Q : Int → Prop} {σ μ : jx_St} {n x k0 : Int} (hA : Ag σ μ) (hn : lvn σ n) (hs : σ 3 n ≤ 5) (hx : jx_R x) (ht : ∀ k, 0 ≤ k → k < σ 3 n → jx_R (th σ n k)) (h0 : 0 ≤ k0) (h1 : k0 < σ 3 n) (he : th σ n k0 = x) (hf : ∀ k, 0 ≤ k → k < k0 → th σ n k ≠ x) (h : Q k0) : wp_M_placeIn Q μ n x := by
  refine jx_loop (fun v => 0 ≤ v ∧ v ≤ k0) (fun v => (k0 - v).toNat) (fun B v hI hB => ?_) ⟨Int.le_refl _, h0⟩
  obtain ⟨a1, a2⟩ := hI
  refine m_manyOf hA hn ⟨jx_inR (by omega) (by omega), jx_inR (by omega) (by omega), fun q => m_thing hA hn hs a1 q ⟨ht _ a1 q, hx, fun e => ?_, fun e => ?_⟩, fun q => absurd (by omega) q⟩
  · have ev : v = k0 := by
      rcases Int.lt_or_eq_of_le a2 with z | z
      · exact absurd e (hf v a1 z)
      · exact z
    rw [ev]
    exact h
  · have : v ≠ k0 := fun z => e (by rw [z]; exact he)
    exact hB (v + 1) ⟨by omega, by omega⟩ (by omega)
theorem g_wayOn {σ μ : jx_St} {P : List (Int × Int)} {n x l : Int} (hW : Ws σ P []) (hV : Vh σ) (hA : Ag σ μ) (hL : La σ μ) (hn : lvn σ n) (hl : 0 < σ 2 n) (hs : sdk σ μ x l) (hlR : jx_R l) (hx : vb (hv σ x l)) : ∃ b : jx_St, (∀ z, z ≠ 9 → b z = μ z) ∧ ∀ (Q : Int → jx_St → Prop), Q (lgF σ n (hv σ x l)) b → wp_M_wayOn Q μ n x l := by
  have s3 := hW.sh.1 n hn
  have kd : ∀ k, 0 ≤ k → k < σ 3 n → lvn σ (th σ n k) ∧ vb (σ 4 (th σ n k)) ∧ sdk σ μ (th σ n k) (σ 2 n) := fun k k0 k1 => by
    have h := hW.kid hn hl (th_kids k0 k1)
    have hv0 := hV n k hn k0 k1
    unfold hv at hv0
    rw [if_neg (by omega)] at hv0
    refine ⟨h.1, hv0, sdk_row hW hn (fun y hy h0 => ?_) k0 k1⟩
    have h2 := hW.kid hn h0 hy
    exact (hL y h2.1).1 (by have := ((hW.2.2.2.1 y h2.1).2.2.resolve_left List.not_mem_nil).1 h2.2.2.2; omega)
  have loop : ∃ b : Int × jx_St, (b.1 = lgF σ n (hv σ x l) ∧ ∀ z, z ≠ 9 → b.2 z = μ z) ∧ ∀ (g : Int → jx_St → Prop) (K : Int × jx_St → Prop), K b → jx_lp (fun B v => wp_M_wayOn_12 (fun r s => K (r, s)) n x l B v.1 v.2.1 v.2.2.1 v.2.2.2.1 v.2.2.2.2) (μ, -1, 0, 0, 0) := by
    refine go_loop (γ := Int → jx_St → Prop) (F := fun _ K B (v : jx_St × Int × Int × Int × Int) => wp_M_wayOn_12 (fun r s => K (r, s)) n x l B v.1 v.2.1 v.2.2.1 v.2.2.2.1 v.2.2.2.2) (fun v => (∀ z, z ≠ 9 → v.1 z = μ z) ∧ 0 ≤ v.2.2.2.2 ∧ v.2.2.2.2 ≤ σ 3 n ∧ (v.2.1, v.2.2.1, v.2.2.2.1) = lgs (fun k => σ 4 (th σ n k)) (fun k => th σ n k) (hv σ x l) v.2.2.2.2.toNat) (fun v => (σ 3 n - v.2.2.2.2).toNat) _ (fun v hI => ?_) ⟨fun _ _ => rfl, Int.le_refl _, s3.1, rfl⟩
    obtain ⟨μ1, bt, gr, ba, k⟩ := v
    obtain ⟨a0, a1, a2, a3⟩ := hI
    dsimp only at a0 a1 a2 a3 ⊢
    have hA1 : Ag σ μ1 := hA.of (a0 0 (by decide))
    have ek : ((k.toNat : Nat) : Int) = k := Int.toNat_of_nonneg a1
    by_cases q : k < σ 3 n
    · right
      obtain ⟨k1, k2, k3⟩ := kd k a1 q
      have ehv : hv σ (th σ n k) (σ 2 n) = σ 4 (th σ n k) := by unfold hv; rw [if_neg (by omega)]
      obtain ⟨μ2, ⟨t1, t2⟩, tg⟩ := g_takes_one hA1 (k3.of (fun _ j _ _ => by rw [a0 7 (by decide)])) (hW.R2 hn)
      have hA2 : Ag σ μ2 := hA1.of (t1 0 (by decide))
      rw [ehv] at t2
      obtain ⟨μ3, ⟨u1, u2⟩, ug⟩ := g_widens_one hA2 (hs.of (μ' := μ2) (fun _ j _ _ => by rw [t1 7 (by decide), a0 7 (by decide)])) hlR k2 hx t2
      have hA3 : Ag σ μ3 := hA2.of (u1 0 (by decide))
      have ar1 := ms_area t2 k2
      have ar2 := ms_area u2 (ar_vb2 (Or.inr k2) hx)
      have bd := lgs_bd (hs := fun k => σ 4 (th σ n k)) (xs := fun k => th σ n k) (b := hv σ x l) (Or.inr hx) k.toNat (fun j j0 j1 => Or.inr (kd j j0 (by omega)).2.1)
      have bx := lgs_x (hs := fun k => σ 4 (th σ n k)) (xs := fun k => th σ n k) (b := hv σ x l) k.toNat
      rw [← a3] at bd bx
      dsimp only at bd bx
      have hbt : jx_R bt := by
        rcases bx with e | ⟨j, j0, j1, e⟩
        · rw [e]; exact jx_inR (by decide) (by decide)
        · rw [e]; exact (kd j j0 (by omega)).1.1.R
      have b1 := arF_bd (Or.inr k2)
      have b2 := arF_bd (Or.inr (ar_vb2 (Or.inr k2) hx))
      have fr : ∀ z, z ≠ 9 → μ3 z = μ z := fun z hz => by rw [u1 z hz, t1 z hz, a0 z hz]
      by_cases c : bt = -1 ∨ arF (ar (σ 4 (th σ n k)) (hv σ x l)) - arF (σ 4 (th σ n k)) < gr ∨ (arF (ar (σ 4 (th σ n k)) (hv σ x l)) - arF (σ 4 (th σ n k)) = gr ∧ arF (σ 4 (th σ n k)) < ba)
      · refine ⟨(μ3, th σ n k, arF (ar (σ 4 (th σ n k)) (hv σ x l)) - arF (σ 4 (th σ n k)), arF (σ 4 (th σ n k)), k + 1), ⟨fr, by dsimp only; omega, by dsimp only; omega, ?_⟩, by dsimp only; omega, fun g K B hB => ?_⟩
        · dsimp only
          rw [show (k + 1).toNat = k.toNat + 1 by omega]
          simp only [lgs, ← a3, ek]
          rw [if_pos c]
        · have yes : wp_M_wayOn_100 (fun r s => K (r, s)) n x l B μ3 k (arF (σ 4 (th σ n k))) (arF (ar (σ 4 (th σ n k)) (hv σ x l)) - arF (σ 4 (th σ n k))) := m_thing hA3 hn s3.2.1 a1 q hB
          refine m_manyOf hA1 hn ⟨jx_inR (by omega) (by omega), jx_inR (by omega) (by omega), fun _ => m_thing hA1 hn s3.2.1 a1 q (m_level hA1 hn.1 (tg _ (ug _ ?_))), fun z => absurd q z⟩
          rw [ar1, ar2]
          exact ⟨hbt, fun _ => yes, fun d => ⟨jx_inR (by omega) (by omega), jx_inR (by omega) (by omega), fun _ => yes, fun d2 => ⟨jx_inR (by omega) (by omega), jx_inR (by omega) (by omega), fun d3 => ⟨jx_inR (by omega) (by omega), jx_inR (by omega) (by omega), fun _ => yes, fun d4 => absurd c (by omega)⟩, fun d3 => absurd c (by omega)⟩⟩⟩
      · refine ⟨(μ3, bt, gr, ba, k + 1), ⟨fr, by dsimp only; omega, by dsimp only; omega, ?_⟩, by dsimp only; omega, fun g K B hB => ?_⟩
        · dsimp only
          rw [show (k + 1).toNat = k.toNat + 1 by omega]
          simp only [lgs, ← a3, ek]
          rw [if_neg c]
        · refine m_manyOf hA1 hn ⟨jx_inR (by omega) (by omega), jx_inR (by omega) (by omega), fun _ => m_thing hA1 hn s3.2.1 a1 q (m_level hA1 hn.1 (tg _ (ug _ ?_))), fun z => absurd q z⟩
          rw [ar1, ar2]
          exact ⟨hbt, fun d => absurd (Or.inl d) c, fun d => ⟨jx_inR (by omega) (by omega), jx_inR (by omega) (by omega), fun d2 => absurd (Or.inr (Or.inl d2)) c, fun d2 => ⟨jx_inR (by omega) (by omega), jx_inR (by omega) (by omega), fun d3 => ⟨jx_inR (by omega) (by omega), jx_inR (by omega) (by omega), fun d4 => absurd (Or.inr (Or.inr ⟨d3, d4⟩)) c, fun _ => hB⟩, fun _ => hB⟩⟩⟩
    · left
      have e : k = σ 3 n := by omega
      subst e
      refine ⟨(bt, μ1), ⟨?_, a0⟩, fun g K B hK => m_manyOf hA1 hn ⟨jx_inR (by omega) (by omega), jx_inR (by omega) (by omega), fun z => absurd z q, fun _ => hK⟩⟩
      unfold lgF
      rw [← a3]
  obtain ⟨⟨r, b⟩, ⟨hr, hb⟩, g⟩ := loop
  dsimp only at hr hb
  subst hr
  exact ⟨b, hb, fun Q hQ => g Q (fun w => Q w.1 w.2) hQ⟩
