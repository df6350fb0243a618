/-! ===== the pure part: an order, in the reference ===== -/
def wq (s : jx_St) (w k : Int) : jx_St := jx_su (jx_su s 30 0 w) 31 0 k
theorem wq_n {s : jx_St} {w k : Int} {z : Nat} (h1 : z ≠ 30) (h2 : z ≠ 31) : wq s w k z = s z := by funext j; unfold wq; rw [jx_su_ne h2, jx_su_ne h1]
theorem wq_30 {s : jx_St} {w k : Int} : wq s w k 30 0 = w := by unfold wq; rw [jx_su_ne (by decide), jx_su_eq]
theorem wq_31 {s : jx_St} {w k : Int} : wq s w k 31 0 = k := jx_su_eq
theorem m_wrong0 {Q : jx_St → Prop} {s : jx_St} {w k : Int} (h : s 30 0 = 0) (hQ : Q (wq s w k)) : wp_M_wrong Q s w k := ⟨by rw [h]; exact R_lit 0 (by decide), fun _ => hQ, fun z => absurd h z⟩
theorem m_wrong1 {Q : jx_St → Prop} {s : jx_St} {w k : Int} (h : s 30 0 = 2) (hQ : Q s) : wp_M_wrong Q s w k := ⟨by rw [h]; exact R_lit 2 (by decide), fun z => absurd (h.symm.trans z) (by decide), fun _ => hQ⟩
theorem m_140_bad {Q : jx_St → Prop} {s : jx_St} {t r : Int} (h : s 30 0 = r) (hr : 1 ≤ r ∧ r ≤ 3) (tR : jx_R t) (hQ : Q s) : wp_M_order_140 Q s t := by
  have rR : jx_R (s 30 0) := by rw [h]; exact jx_inR (by omega) (by omega)
  have h216 : wp_M_order_216 Q s := ⟨rR, fun z => absurd (h.symm.trans z) (by omega), fun _ => hQ⟩
  exact ⟨rR, fun z => absurd (h.symm.trans z) (by omega), fun _ => ⟨rR, fun z => absurd (h.symm.trans z) (by omega), fun _ => h216⟩⟩
theorem m_168_bad {Q : jx_St → Prop} {s : jx_St} {t r : Int} (h : s 30 0 = r) (hr : 1 ≤ r ∧ r ≤ 3) (hQ : Q s) : wp_M_order_168 Q s t := by
  have rR : jx_R (s 30 0) := by rw [h]; exact jx_inR (by omega) (by omega)
  exact ⟨rR, fun z => absurd (h.symm.trans z) (by omega), fun _ => ⟨rR, fun z => absurd (h.symm.trans z) (by omega), fun _ => hQ⟩⟩
theorem m_102_end {Q K : jx_St → Prop} {t : Int} {B : jx_St × Int → Prop} {u : jx_St} (h : K u) : wp_M_order_102 Q K t B u 3 := ⟨R_lit 3 (by decide), fun z => absurd z (by decide), fun _ => h⟩
theorem m_102_le {Q K : jx_St → Prop} {i : Int} {B : jx_St × Int → Prop} {u : jx_St} (i0 : 1 ≤ i ∧ i ≤ 2) (r1 : jx_R (u 29 i)) (r2 : jx_R (u 29 (i + 2))) (h : u 29 i ≤ u 29 (i + 2)) (hB : B (u, i + 1)) : wp_M_order_102 Q K 1 B u i :=
  ⟨jx_inR (by omega) (by omega), fun _ => ⟨R_lit 1 (by decide), fun y => absurd y (by decide), fun _ => ⟨⟨by omega, by show i < 5; omega⟩, ⟨by omega, by show i + 2 < 5; omega⟩, r1, r2, fun _ => hB, fun y => absurd h y⟩⟩, fun y => absurd (show i < 3 by omega) y⟩
theorem m_102_gt {Q K : jx_St → Prop} {i : Int} {B : jx_St × Int → Prop} {u : jx_St} (i0 : 1 ≤ i ∧ i ≤ 2) (r1 : jx_R (u 29 i)) (r2 : jx_R (u 29 (i + 2))) (h : ¬ u 29 i ≤ u 29 (i + 2)) (hw : wp_M_wrong (fun s => wp_M_order_134 Q B K s 1 i) u 2 i) : wp_M_order_102 Q K 1 B u i :=
  ⟨jx_inR (by omega) (by omega), fun _ => ⟨R_lit 1 (by decide), fun y => absurd y (by decide), fun _ => ⟨⟨by omega, by show i < 5; omega⟩, ⟨by omega, by show i + 2 < 5; omega⟩, r1, r2, fun y => absurd y h, fun _ => hw⟩⟩, fun y => absurd (show i < 3 by omega) y⟩
theorem m_100_0 {Q : jx_St → Prop} {s : jx_St} (h : wp_M_order_140 Q s 0) : wp_M_order_100 Q s 0 := by
  refine lp_done (fun B => ?_)
  show wp_M_order_102 Q (fun w => wp_M_order_140 Q w 0) 0 B s 1
  exact ⟨R_lit 1 (by decide), fun _ => ⟨R_lit 0 (by decide), fun _ => h, fun z => absurd rfl z⟩, fun z => absurd (by decide) z⟩
/-- the first number that is wrong, among the sides -/
theorem m_100_1 {Q : jx_St → Prop} {s : jx_St} (hR : ∀ k, 0 ≤ k → k < 5 → jx_R (s 29 k)) (hr : s 30 0 = 0 ∨ s 30 0 = 2)
    (h1 : s 30 0 = 0 → s 29 3 < s 29 1 → wp_M_order_140 Q (wq s 2 1) 1) (h2 : s 30 0 = 0 → ¬ s 29 3 < s 29 1 → s 29 4 < s 29 2 → wp_M_order_140 Q (wq s 2 2) 1) (h3 : (s 30 0 = 2 ∨ (¬ s 29 3 < s 29 1 ∧ ¬ s 29 4 < s 29 2)) → wp_M_order_140 Q s 1) : wp_M_order_100 Q s 1 := by
  -- the end
  have e3 : ∀ u : jx_St, wp_M_order_140 Q u 1 → jx_lp (fun B v => wp_M_order_102 Q (fun w => wp_M_order_140 Q w 1) 1 B v.1 v.2) (u, 2 + 1) := fun u hu => lp_done (fun B => by
    show wp_M_order_102 Q (fun w => wp_M_order_140 Q w 1) 1 B u 3
    exact m_102_end hu)
  -- the second comparison
  have e2 : ∀ u : jx_St, u 29 = s 29 → (u 30 0 = 0 ∨ u 30 0 = 2) → (u 30 0 = 0 → s 29 4 < s 29 2 → wp_M_order_140 Q (wq u 2 2) 1) → ((u 30 0 = 2 ∨ ¬ s 29 4 < s 29 2) → wp_M_order_140 Q u 1) → jx_lp (fun B v => wp_M_order_102 Q (fun w => wp_M_order_140 Q w 1) 1 B v.1 v.2) (u, 1 + 1) := fun u hu hur k1 k2 => by
    have x2 : u 29 2 = s 29 2 := by rw [hu]
    have x4 : u 29 (2 + 2) = s 29 4 := by rw [hu]; rfl
    have y2 : jx_R (u 29 2) := by rw [x2]; exact hR 2 (by decide) (by decide)
    have y4 : jx_R (u 29 (2 + 2)) := by rw [x4]; exact hR 4 (by decide) (by decide)
    by_cases c : s 29 4 < s 29 2
    · rcases hur with z | z
      · refine lp_step (a' := (wq u 2 2, 2 + 1)) (fun B hB => ?_) (e3 _ (k1 z c))
        show wp_M_order_102 Q (fun w => wp_M_order_140 Q w 1) 1 B u 2
        exact m_102_gt (by decide) y2 y4 (by rw [x2, x4]; omega) (m_wrong0 z hB)
      · refine lp_step (a' := (u, 2 + 1)) (fun B hB => ?_) (e3 _ (k2 (Or.inl z)))
        show wp_M_order_102 Q (fun w => wp_M_order_140 Q w 1) 1 B u 2
        exact m_102_gt (by decide) y2 y4 (by rw [x2, x4]; omega) (m_wrong1 z hB)
    · refine lp_step (a' := (u, 2 + 1)) (fun B hB => ?_) (e3 _ (k2 (Or.inr c)))
      show wp_M_order_102 Q (fun w => wp_M_order_140 Q w 1) 1 B u 2
      exact m_102_le (by decide) y2 y4 (by rw [x2, x4]; omega) hB
  have x3 : s 29 (1 + 2) = s 29 3 := rfl
  have y1 : jx_R (s 29 1) := hR 1 (by decide) (by decide)
  have y3 : jx_R (s 29 (1 + 2)) := hR 3 (by decide) (by decide)
  by_cases c : s 29 3 < s 29 1
  · rcases hr with z | z
    · refine lp_step (a' := (wq s 2 1, 1 + 1)) (fun B hB => ?_) (e2 _ (wq_n (by decide) (by decide)) (Or.inr wq_30) (fun y => absurd (wq_30.symm.trans y) (by decide)) (fun _ => h1 z c))
      show wp_M_order_102 Q (fun w => wp_M_order_140 Q w 1) 1 B s 1
      exact m_102_gt (by decide) y1 y3 (by rw [x3]; omega) (m_wrong0 z hB)
    · refine lp_step (a' := (s, 1 + 1)) (fun B hB => ?_) (e2 s rfl (Or.inr z) (fun y => absurd (z.symm.trans y) (by decide)) (fun _ => h3 (Or.inl z)))
      show wp_M_order_102 Q (fun w => wp_M_order_140 Q w 1) 1 B s 1
      exact m_102_gt (by decide) y1 y3 (by rw [x3]; omega) (m_wrong1 z hB)
  · refine lp_step (a' := (s, 1 + 1)) (fun B hB => ?_) (e2 s rfl hr (fun y y2 => h2 y c y2) (fun y => h3 (y.elim Or.inl (fun y2 => Or.inr ⟨c, y2⟩))))
    show wp_M_order_102 Q (fun w => wp_M_order_140 Q w 1) 1 B s 1
    exact m_102_le (by decide) y1 y3 (by rw [x3]; omega) hB
/-- up to the numbers -/
theorem g_front {o μ : jx_St} {p : Int} (hT : Tx o μ) (hp : μ 28 0 = p) (p0 : 0 ≤ p) (p1 : p < o 1 0) (hs : chr o p = 43 ∨ chr o p = 45) : ∃ b : jx_St, ((∀ z, z ≠ 28 → z ≠ 29 → z ≠ 32 → b z = μ z) ∧ b 28 0 = (rdo (chr o) p).2 ∧ b 32 0 = p ∧ ((rdo (chr o) p).1 = 1 → ∀ k, 0 ≤ k → k < wW (chr o) p → b 29 k = nu (chr o) (p + 1) k)) ∧ ∀ Q : jx_St → Prop, (jx_R (rdo (chr o) p).1 ∧ (((rdo (chr o) p).1 = 0 → wp_M_wrong (fun s => Q s) b 1 ((b 28 0) - (b 32 0))) ∧ (¬ (rdo (chr o) p).1 = 0 → jx_R (b 29 0) ∧ (((b 29 0) < 31 → wp_M_order_100 Q b (wP (chr o) p)) ∧ (¬ (b 29 0) < 31 → wp_M_wrong (fun s => wp_M_order_100 Q s (wP (chr o) p)) b 2 0))))) → wp_M_order Q μ := by
  have L1 := hT.2.2.1
  obtain ⟨s1, hs1⟩ : ∃ u : jx_St, u = jx_su μ 32 0 p := ⟨_, rfl⟩
  have f1 : ∀ z, z ≠ 32 → s1 z = μ z := fun z hz => by rw [hs1]; funext j; exact jx_su_ne hz
  have f28 : s1 28 0 = p := by rw [f1 28 (by decide), hp]
  obtain ⟨s2, hs2⟩ : ∃ u : jx_St, u = jx_su s1 28 0 (p + 1) := ⟨_, rfl⟩
  have g28 : s2 28 0 = p + 1 := by rw [hs2, jx_su_eq]
  have g1 : ∀ z, z ≠ 28 → z ≠ 32 → s2 z = μ z := fun z z28 z32 => by rw [← f1 z z32, hs2]; funext j; exact jx_su_ne z28
  have hT1 : Tx o s1 := tx_of hT (f1 3 (by decide)) (f1 6 (by decide))
  have hT2 : Tx o s2 := tx_of hT (g1 3 (by decide) (by decide)) (g1 6 (by decide) (by decide))
  have wb : 1 ≤ wW (chr o) p ∧ wW (chr o) p ≤ 5 := by unfold wW; split <;> omega
  have er : rdo (chr o) p = rdr (chr o) (p + 1) (wW (chr o) p) (wW (chr o) p).toNat 0 := by unfold rdo; rw [if_pos hs]
  obtain ⟨b, ⟨b1, b2, b3⟩, bg⟩ := g_reads (w := wW (chr o) p) hT2 g28 (by omega) (by omega) wb
  rw [← er] at b2 b3 bg
  refine ⟨b, ⟨fun z z28 z29 z32 => by rw [b1 z z28 z29, g1 z z28 z32], b2, by rw [b1 32 (by decide) (by decide), hs2, jx_su_ne (by decide), hs1, jx_su_eq], b3⟩, fun Q hQ => ?_⟩
  have h62 : wp_M_order_62 Q s2 (wP (chr o) p) (wW (chr o) p) := bg _ hQ
  have h42 : wp_M_order_42 Q s1 (wP (chr o) p) := by
    unfold wp_M_order_42
    rw [f28, ← hs2]
    rcases wP_01 (chr o) p with z | z
    · rw [z] at h62 ⊢
      have ew : wW (chr o) p = 1 := by
        unfold wP at z; unfold wW
        by_cases c : chr o p = 43
        · rw [if_pos c] at z; exact absurd z (by decide)
        · rw [if_neg c]
      rw [ew] at h62
      exact c0 h62
    · rw [z] at h62 ⊢
      rw [wW_5 z] at h62
      exact c1 h62
  unfold wp_M_order
  rw [hp, ← hs1]
  refine m_here hT1 (by rw [f28]; exact p0) (by rw [f28]; omega) ?_
  rw [f28]
  have cR := chr_R hT.txo p
  refine ⟨cR, fun c => ?_, fun c => ?_⟩
  · have : wP (chr o) p = 1 := by unfold wP; rw [if_pos c]
    rw [this] at h42
    exact c1 h42
  · have : wP (chr o) p = 0 := by unfold wP; rw [if_neg c]
    rw [this] at h42
    exact c0 ⟨cR, fun _ => h42, fun y => absurd (hs.resolve_left c) y⟩
theorem wrN_cases {c : Int → Int} {p : Int} : (31 ≤ nu c (p + 1) 0 → wrN c p = 0) ∧ (¬ 31 ≤ nu c (p + 1) 0 → wP c p = 1 → nu c (p + 1) 3 < nu c (p + 1) 1 → wrN c p = 1) ∧ (¬ 31 ≤ nu c (p + 1) 0 → wP c p = 1 → ¬ nu c (p + 1) 3 < nu c (p + 1) 1 → nu c (p + 1) 4 < nu c (p + 1) 2 → wrN c p = 2) ∧ (¬ 31 ≤ nu c (p + 1) 0 → (wP c p = 1 → ¬ nu c (p + 1) 3 < nu c (p + 1) 1 ∧ ¬ nu c (p + 1) 4 < nu c (p + 1) 2) → wrN c p = -1) := by
  unfold wrN
  refine ⟨fun h => by rw [if_pos h], fun h a b => by rw [if_neg h, if_pos ⟨a, b⟩], fun h a b e => by rw [if_neg h, if_neg (fun z => b z.2), if_pos ⟨a, e⟩], fun h a => ?_⟩
  rw [if_neg h, if_neg (fun z => (a z.1).1 z.2), if_neg (fun z => (a z.1).2 z.2)]
/-- what an order brings in the reference: it is not possible, or it is done -/
theorem g_order {o σ μ : jx_St} {p : Int} (hT : Tx o μ) (hA : Ag σ μ) (hp : μ 28 0 = p) (p0 : 0 ≤ p) (p1 : p < o 1 0) (h30 : μ 30 0 = 0) :
    (wy (chr o) (dF σ) p ≠ 0 ∧ ∃ b : jx_St, ((∀ z, z ≠ 28 → z ≠ 29 → z ≠ 30 → z ≠ 31 → z ≠ 32 → b z = μ z) ∧ b 28 0 = (rdo (chr o) p).2 ∧ b 32 0 = p ∧ b 30 0 = wy (chr o) (dF σ) p ∧ b 31 0 = if cz (chr o) p = -1 then -1000004 else cz (chr o) p) ∧ ∀ Q : jx_St → Prop, Q b → wp_M_order Q μ) ∨
    (wy (chr o) (dF σ) p = 0 ∧ nb (nu (chr o) (p + 1) 0) ∧ (dF σ (nu (chr o) (p + 1) 0) = if wP (chr o) p = 1 then 0 else 1) ∧ (wP (chr o) p = 1 → Wn (nu (chr o) (p + 1) 1) (nu (chr o) (p + 1) 2) (nu (chr o) (p + 1) 3) (nu (chr o) (p + 1) 4)) ∧ (rdo (chr o) p).1 = 1 ∧ ∃ b : jx_St, ((∀ z, z ≠ 28 → z ≠ 29 → z ≠ 32 → b z = μ z) ∧ b 28 0 = (rdo (chr o) p).2) ∧ (wP (chr o) p = 1 → ∀ Q : jx_St → Prop, wp_M_putsBox Q b (nu (chr o) (p + 1) 0) (nu (chr o) (p + 1) 1) (nu (chr o) (p + 1) 2) (nu (chr o) (p + 1) 3) (nu (chr o) (p + 1) 4) → wp_M_order Q μ) ∧ (wP (chr o) p = 0 → ∀ Q : jx_St → Prop, wp_M_takesBox Q b (nu (chr o) (p + 1) 0) → wp_M_order Q μ)) := by
  have L1 := hT.2.2.1
  by_cases hs : chr o p = 43 ∨ chr o p = 45
  · obtain ⟨b, ⟨b1, b28, b32, bn⟩, bg⟩ := g_front hT hp p0 p1 hs
    obtain ⟨r1, r2, r3, r4⟩ := rdo_bd hT.txo p0 p1
    have e30 : b 30 0 = 0 := by rw [b1 30 (by decide) (by decide) (by decide)]; exact h30
    rcases r1 with z | z
    · left
      have ey : wy (chr o) (dF σ) p = 1 := by unfold wy; rw [if_pos z]
      have ec : cz (chr o) p = (rdo (chr o) p).2 - p := by unfold cz; rw [if_pos z]
      refine ⟨by rw [ey]; decide, wq b 1 ((rdo (chr o) p).2 - p), ⟨fun y y28 y29 y30 y31 y32 => by rw [wq_n y30 y31, b1 y y28 y29 y32], by rw [wq_n (by decide) (by decide)]; exact b28, by rw [wq_n (by decide) (by decide)]; exact b32, by rw [wq_30, ey], by rw [wq_31, ec, if_neg (by omega)]⟩, fun Q hQ => bg Q ?_⟩
      rw [z, b28, b32]
      exact c0 (m_wrong0 e30 hQ)
    · obtain ⟨s1, s2⟩ := r4 z
      have bn' := bn z
      have nz : ¬ (rdo (chr o) p).1 = 0 := by omega
      have ec : cz (chr o) p = wrN (chr o) p := by unfold cz; rw [if_neg nz]
      have w1 : 1 ≤ wW (chr o) p := by unfold wW; split <;> decide
      have e0 := bn' 0 (Int.le_refl _) (by omega)
      have q0 := s2 0 (Int.le_refl _) (by omega)
      obtain ⟨k1, k2, k3, k4⟩ := wrN_cases (c := chr o) (p := p)
      have b0R : jx_R (b 29 0) := by rw [e0]; exact jx_inR (by omega) (by omega)
      have tR : jx_R (wP (chr o) p) := by rcases wP_01 (chr o) p with x | x <;> rw [x] <;> exact jx_inR (by decide) (by decide)
      have hAb : Ag σ b := hA.of (b1 0 (by decide) (by decide) (by decide))
      -- a number is wrong
      have bad2 : ∀ k, wrN (chr o) p = k → k ≠ -1 → (∀ Q : jx_St → Prop, Q (wq b 2 k) → wp_M_order Q μ) → (wy (chr o) (dF σ) p ≠ 0 ∧ ∃ b : jx_St, ((∀ z, z ≠ 28 → z ≠ 29 → z ≠ 30 → z ≠ 31 → z ≠ 32 → b z = μ z) ∧ b 28 0 = (rdo (chr o) p).2 ∧ b 32 0 = p ∧ b 30 0 = wy (chr o) (dF σ) p ∧ b 31 0 = if cz (chr o) p = -1 then -1000004 else cz (chr o) p) ∧ ∀ Q : jx_St → Prop, Q b → wp_M_order Q μ) := fun k hk hk1 hgo => by
        have ey : wy (chr o) (dF σ) p = 2 := by unfold wy; rw [if_neg nz, if_pos (by rw [hk]; exact hk1)]
        exact ⟨by rw [ey]; decide, wq b 2 k, ⟨fun y y28 y29 y30 y31 y32 => by rw [wq_n y30 y31, b1 y y28 y29 y32], by rw [wq_n (by decide) (by decide)]; exact b28, by rw [wq_n (by decide) (by decide)]; exact b32, by rw [wq_30, ey], by rw [wq_31, ec, hk, if_neg hk1]⟩, hgo⟩
      by_cases c31 : 31 ≤ nu (chr o) (p + 1) 0
      · left
        refine bad2 0 (k1 c31) (by decide) (fun Q hQ => bg Q ?_)
        have n140 : ∀ t, jx_R t → wp_M_order_140 Q (wq b 2 0) t := fun t ht => m_140_bad wq_30 (by decide) ht hQ
        rw [z]
        refine c1 ⟨b0R, fun y => absurd y (by rw [e0]; omega), fun _ => m_wrong0 e30 ?_⟩
        rcases wP_01 (chr o) p with x | x
        · rw [x]; exact m_100_0 (n140 0 (R_lit 0 (by decide)))
        · rw [x]
          have e29 : wq b 2 0 29 = b 29 := wq_n (by decide) (by decide)
          refine m_100_1 (fun k k0 k1' => by rw [e29, bn' k k0 (by rw [wW_5 x]; exact k1')]; have := s2 k k0 (by rw [wW_5 x]; exact k1'); exact jx_inR (by omega) (by omega)) (Or.inr wq_30) (fun y => absurd (wq_30.symm.trans y) (by decide)) (fun y => absurd (wq_30.symm.trans y) (by decide)) (fun _ => n140 1 (R_lit 1 (by decide)))
      · have hlt : b 29 0 < 31 := by rw [e0]; omega
        -- the numbers are right: is there such a box?
        have good : wrN (chr o) p = -1 → (∀ Q : jx_St → Prop, wp_M_order_140 Q b (wP (chr o) p) → wp_M_order Q μ) → (wP (chr o) p = 1 → Wn (nu (chr o) (p + 1) 1) (nu (chr o) (p + 1) 2) (nu (chr o) (p + 1) 3) (nu (chr o) (p + 1) 4)) → (wy (chr o) (dF σ) p ≠ 0 ∧ ∃ b : jx_St, ((∀ z, z ≠ 28 → z ≠ 29 → z ≠ 30 → z ≠ 31 → z ≠ 32 → b z = μ z) ∧ b 28 0 = (rdo (chr o) p).2 ∧ b 32 0 = p ∧ b 30 0 = wy (chr o) (dF σ) p ∧ b 31 0 = if cz (chr o) p = -1 then -1000004 else cz (chr o) p) ∧ ∀ Q : jx_St → Prop, Q b → wp_M_order Q μ) ∨
            (wy (chr o) (dF σ) p = 0 ∧ nb (nu (chr o) (p + 1) 0) ∧ (dF σ (nu (chr o) (p + 1) 0) = if wP (chr o) p = 1 then 0 else 1) ∧ (wP (chr o) p = 1 → Wn (nu (chr o) (p + 1) 1) (nu (chr o) (p + 1) 2) (nu (chr o) (p + 1) 3) (nu (chr o) (p + 1) 4)) ∧ (rdo (chr o) p).1 = 1 ∧ ∃ b : jx_St, ((∀ z, z ≠ 28 → z ≠ 29 → z ≠ 32 → b z = μ z) ∧ b 28 0 = (rdo (chr o) p).2) ∧ (wP (chr o) p = 1 → ∀ Q : jx_St → Prop, wp_M_putsBox Q b (nu (chr o) (p + 1) 0) (nu (chr o) (p + 1) 1) (nu (chr o) (p + 1) 2) (nu (chr o) (p + 1) 3) (nu (chr o) (p + 1) 4) → wp_M_order Q μ) ∧ (wP (chr o) p = 0 → ∀ Q : jx_St → Prop, wp_M_takesBox Q b (nu (chr o) (p + 1) 0) → wp_M_order Q μ)) := fun hw hgo hWn => by
          have hn0 : nb (nu (chr o) (p + 1) 0) := ⟨q0.1, by omega⟩
          have e30R : jx_R (b 30 0) := by rw [e30]; exact R_lit 0 (by decide)
          have there : ∀ (R : Int → Prop), R (dF σ (nu (chr o) (p + 1) 0)) → wp_M_isThere R b (b 29 0) := fun R hr => by
            rw [e0]
            unfold dF at hr
            by_cases y : σ 0 (nu (chr o) (p + 1) 0) = -1
            · rw [if_pos y] at hr; exact m_there_f hAb hn0 y hr
            · rw [if_neg y] at hr; exact m_there_t hAb hn0 y hr
          have d01 : dF σ (nu (chr o) (p + 1) 0) = 0 ∨ dF σ (nu (chr o) (p + 1) 0) = 1 := by unfold dF; split <;> decide
          have dR : jx_R (dF σ (nu (chr o) (p + 1) 0)) := by rcases d01 with y | y <;> rw [y] <;> exact jx_inR (by decide) (by decide)
          have ed : (if dF σ (nu (chr o) (p + 1) 0) ≠ 0 then (1 : Int) else 0) = dF σ (nu (chr o) (p + 1) 0) := by rcases d01 with y | y <;> rw [y] <;> rfl
          by_cases y : dF σ (nu (chr o) (p + 1) 0) = wP (chr o) p
          · left
            have ey : wy (chr o) (dF σ) p = 3 := by unfold wy; rw [if_neg nz, if_neg (fun x => x hw), ed, if_pos y]
            refine ⟨by rw [ey]; decide, wq b 3 (-1000004), ⟨fun y y28 y29 y30 y31 y32 => by rw [wq_n y30 y31, b1 y y28 y29 y32], by rw [wq_n (by decide) (by decide)]; exact b28, by rw [wq_n (by decide) (by decide)]; exact b32, by rw [wq_30, ey], by rw [wq_31, ec, hw, if_pos rfl]⟩, fun Q hQ => hgo Q ⟨e30R, fun _ => there _ ⟨dR, tR, fun _ => m_wrong0 e30 (m_168_bad wq_30 (by decide) hQ), fun x => absurd y x⟩, fun x => absurd e30 x⟩⟩
          · right
            have ey : wy (chr o) (dF σ) p = 0 := by unfold wy; rw [if_neg nz, if_neg (fun x => x hw), ed, if_neg y]
            have bn5 : wP (chr o) p = 1 → b 29 1 = nu (chr o) (p + 1) 1 ∧ b 29 2 = nu (chr o) (p + 1) 2 ∧ b 29 3 = nu (chr o) (p + 1) 3 ∧ b 29 4 = nu (chr o) (p + 1) 4 := fun x => ⟨bn' 1 (by decide) (by rw [wW_5 x]; decide), bn' 2 (by decide) (by rw [wW_5 x]; decide), bn' 3 (by decide) (by rw [wW_5 x]; decide), bn' 4 (by decide) (by rw [wW_5 x]; decide)⟩
            refine ⟨ey, hn0, ?_, hWn, z, b, ⟨b1, b28⟩, fun x Q hQ => hgo Q ⟨e30R, fun _ => there _ ⟨dR, tR, fun y' => absurd y' y, fun _ => ⟨e30R, fun _ => ⟨tR, fun x0 => absurd (x.symm.trans x0) (by decide), fun _ => ?_⟩, fun x0 => absurd e30 x0⟩⟩, fun x0 => absurd e30 x0⟩, fun x Q hQ => hgo Q ⟨e30R, fun _ => there _ ⟨dR, tR, fun y' => absurd y' y, fun _ => ⟨e30R, fun _ => ⟨tR, fun _ => ⟨e30R, fun _ => ?_, fun x0 => absurd e30 x0⟩, fun x0 => absurd x x0⟩, fun x0 => absurd e30 x0⟩⟩, fun x0 => absurd e30 x0⟩⟩
            · rcases wP_01 (chr o) p with x | x
              · rw [if_neg (by omega)]; omega
              · rw [if_pos x]; omega
            · obtain ⟨g1, g2, g3, g4⟩ := bn5 x
              rw [e0, g1, g2, g3, g4]
              exact hQ
            · rw [e0]; exact hQ
        have go100 : ∀ Q : jx_St → Prop, wp_M_order_100 Q b (wP (chr o) p) → wp_M_order Q μ := fun Q h => bg Q (by rw [z]; exact c1 ⟨b0R, fun _ => h, fun y => absurd hlt y⟩)
        rcases wP_01 (chr o) p with x | x
        · refine good (k4 c31 (fun y => absurd (x.symm.trans y) (by decide))) (fun Q h => go100 Q ?_) (fun y => absurd (x.symm.trans y) (by decide))
          rw [x] at h ⊢
          exact m_100_0 h
        · have w5 := wW_5 x
          have g1 := bn' 1 (by decide) (by rw [w5]; decide)
          have g2 := bn' 2 (by decide) (by rw [w5]; decide)
          have g3 := bn' 3 (by decide) (by rw [w5]; decide)
          have g4 := bn' 4 (by decide) (by rw [w5]; decide)
          have v1 := s2 1 (by decide) (by rw [w5]; decide)
          have v2 := s2 2 (by decide) (by rw [w5]; decide)
          have v3 := s2 3 (by decide) (by rw [w5]; decide)
          have v4 := s2 4 (by decide) (by rw [w5]; decide)
          have nR : ∀ k, 0 ≤ k → k < 5 → jx_R (b 29 k) := fun k k0 k1' => by rw [bn' k k0 (by rw [w5]; exact k1')]; have := s2 k k0 (by rw [w5]; exact k1'); exact jx_inR (by omega) (by omega)
          by_cases a : nu (chr o) (p + 1) 3 < nu (chr o) (p + 1) 1
          · left
            refine bad2 1 (k2 c31 x a) (by decide) (fun Q hQ => go100 Q ?_)
            rw [x]
            exact m_100_1 nR (Or.inl e30) (fun _ _ => m_140_bad wq_30 (by decide) (R_lit 1 (by decide)) hQ) (fun _ y => absurd (by rw [g3, g1]; exact a) y) (fun y => by
              rcases y with y | y
              · exact absurd (e30.symm.trans y) (by decide)
              · exact absurd (by rw [g3, g1]; exact a) y.1)
          · by_cases a2 : nu (chr o) (p + 1) 4 < nu (chr o) (p + 1) 2
            · left
              refine bad2 2 (k3 c31 x a a2) (by decide) (fun Q hQ => go100 Q ?_)
              rw [x]
              exact m_100_1 nR (Or.inl e30) (fun _ y => absurd (by rw [← g3, ← g1]; exact y) a) (fun _ _ _ => m_140_bad wq_30 (by decide) (R_lit 1 (by decide)) hQ) (fun y => by
                rcases y with y | y
                · exact absurd (e30.symm.trans y) (by decide)
                · exact absurd (by rw [g4, g2]; exact a2) y.2)
            · refine good (k4 c31 (fun _ => ⟨a, a2⟩)) (fun Q h => go100 Q ?_) (fun _ => ⟨v1.1, v2.1, by omega, by omega, v3.2, v4.2⟩)
              rw [x] at h ⊢
              exact m_100_1 nR (Or.inl e30) (fun _ y => absurd (by rw [← g3, ← g1]; exact y) a) (fun _ _ y => absurd (by rw [← g4, ← g2]; exact y) a2) (fun _ => h)
  · left
    have er : rdo (chr o) p = (0, p) := by unfold rdo; rw [if_neg hs]
    have ey : wy (chr o) (dF σ) p = 1 := by unfold wy; rw [er, if_pos rfl]
    have ec : cz (chr o) p = 0 := by
      unfold cz
      rw [er, if_pos rfl]
      show p - p = 0
      omega
    obtain ⟨s1, hs1⟩ : ∃ u : jx_St, u = jx_su μ 32 0 p := ⟨_, rfl⟩
    have f1 : ∀ z, z ≠ 32 → s1 z = μ z := fun z hz => by rw [hs1]; funext j; exact jx_su_ne hz
    have f28 : s1 28 0 = p := by rw [f1 28 (by decide), hp]
    have hT1 : Tx o s1 := tx_of hT (f1 3 (by decide)) (f1 6 (by decide))
    have cR := chr_R hT.txo p
    refine ⟨by rw [ey]; decide, wq s1 1 0, ⟨fun y y28 y29 y30 y31 y32 => by rw [wq_n y30 y31, f1 y y32], by rw [wq_n (by decide) (by decide), f28, er], by rw [wq_n (by decide) (by decide), hs1, jx_su_eq], by rw [wq_30, ey], by rw [wq_31, ec, if_neg (by decide)]⟩, fun Q hQ => ?_⟩
    unfold wp_M_order
    rw [hp, ← hs1]
    refine m_here hT1 (by rw [f28]; exact p0) (by rw [f28]; omega) ?_
    rw [f28]
    refine ⟨cR, fun c => absurd (Or.inl c) hs, fun c => c0 ⟨cR, fun y => absurd (Or.inr y) hs, fun _ => m_wrong0 (by rw [f1 30 (by decide)]; exact h30) hQ⟩⟩
