/-! ===== the pure part: both sides insert ===== -/
set_option maxRecDepth 100000 in
theorem unc_0 : unc 0 = 4 := by decide
theorem kids_push {σ : jx_St} {P : List (Int × Int)} {E : List Int} {p : Int → Int} {d n x : Int} (hW : Ws σ P E) (hp : Pth σ p d n) (h4 : σ 3 n ≤ 4) {τ : jx_St} (hτ : ∀ k, k ≠ 4 → τ k = adF σ n (σ 3 n) x k) : Pth τ p d n := by
  have e2 : ∀ i, τ 2 i = σ 2 i := fun i => by rw [hτ 2 (by decide)]; exact adF_2
  have e7 : τ 7 0 = σ 7 0 := by rw [hτ 7 (by decide)]; exact adF_n (by decide) (by decide) (by decide) (by decide)
  have n0 := (hW.sh.1 n hp.lv).1
  obtain ⟨q0, q1, q2, q3, q4⟩ := hp
  refine ⟨q0, by rw [e7]; exact q1, q2, fun i i0 i1 => ?_, fun i i0 i1 => ?_⟩
  · rw [e7, e2, e2]
    exact ⟨⟨(q3 i i0 i1).1.1, by rw [e2]; exact (q3 i i0 i1).1.2⟩, (q3 i i0 i1).2⟩
  · have a := q3 i i0 (by omega)
    have b := (q3 d q0 (Int.le_refl _)).2
    rw [q2] at b
    have hne : p i ≠ n := fun e => by rw [e] at a; omega
    have s5 := hW.sh.1 _ a.1
    have ek : kids τ (p i) = kids (adF σ n (σ 3 n) x) (p i) := kids_same (by rw [hτ 3 (by decide)]) (fun k _ _ => by unfold th; rw [hτ 6 (by decide)])
    rw [ek, kids_ad_ne hne s5.2.1 h4 ⟨n0, Int.le_refl _⟩]
    exact q4 i i0 i1
theorem wait_ok {σ : jx_St} {P : List (Int × Int)} {x l : Int} (hW : Ws σ P []) (hH : Hs σ []) (hx : (x, l) ∈ P) : 0 ≤ l ∧ tv x l ∧ vb (hv σ x l) ∧ (0 < l → lvn σ x ∧ 1 ≤ σ 3 x) := by
  have ha := (hW.2.2.2.2.2.2.2.1 x l hx).1
  unfold hv tv
  rcases ha with ⟨a, b, c⟩ | ⟨a, b, c, d⟩
  · rw [if_pos a, if_pos a]
    exact ⟨by omega, b, (hW.2.2.2.2.2.2.2.2.2 x b).resolve_left c, fun z => by omega⟩
  · rw [if_neg (by omega), if_neg (by omega)]
    have h2 := ((hW.2.2.2.1 _ b).2.2.resolve_left List.not_mem_nil).1 d
    exact ⟨by omega, b.1, vh_hull hW hH b (by omega), fun _ => ⟨b, by omega⟩⟩
def fI (Qm : jx_St → Prop) (x l : Int) : (jx_St → Prop) → jx_St → Prop := fun B v => wp_M_insertion_16 Qm x l B v
theorem lock_insert {Q : jx_St → jx_St → jx_St → Prop} {ρ ψ σ μ : jx_St} {P0 : List (Int × Int)} {x l : Int} (hW : Ws σ ((x, l) :: P0) []) (hH : Hs σ []) (hAl : Al σ) (hA : Ag σ μ) (hl : ∀ a ∈ (x, l) :: P0, a.2 ≤ σ 2 (σ 7 0)) (hC : Cr ρ μ) (hc : ρ 8 0 ≤ 44)
    (h : ∀ ρ' ψ' τ μ', Ws τ P0 [] → Hs τ [] → Al τ → Ag τ μ' → Kp σ τ → Cr ρ' μ' → ρ' 9 = ρ 9 → ρ' 8 0 ≤ ρ 8 0 + 4 → (∀ a ∈ P0, a.2 ≤ τ 2 (τ 7 0)) → (Km μ μ' ∧ τ 8 0 - ρ' 8 0 = σ 8 0 - ρ 8 0 ∧ (ρ 8 0 = 0 → CQ ρ' τ)) → (∀ (Qm : jx_St → Prop), Qm μ' → wp_M_insertion Qm μ x l) → Q ρ' ψ' τ) : wp_C_insert Q ρ ψ σ x l := by
  have b4 : jx_su (jx_su ρ 5 0 0) 4 0 0 4 0 = 0 := jx_su_eq
  have b5 : jx_su (jx_su ρ 5 0 0) 4 0 0 5 0 = 0 := by rw [jx_su_ne (by decide)]; exact jx_su_eq
  have bn : ∀ k i, k ≠ 4 → k ≠ 5 → jx_su (jx_su ρ 5 0 0) 4 0 0 k i = ρ k i := fun k i k4 k5 => by rw [jx_su_ne k4, jx_su_ne k5]
  have m13 : jx_su (jx_su μ 14 0 0) 13 0 0 13 0 = 0 := jx_su_eq
  refine p_await (by rw [b4]; decide) (by rw [b4]; decide) (fun ρ1 k1 e4 e2 e3 _ => ?_)
  rw [b4] at e4 e2 e3
  have r5 : ρ1 5 0 = 0 := by rw [k1 5 (by decide) (by decide) (by decide), b5]
  have r8 : ∀ k i, k ≠ 2 → k ≠ 3 → k ≠ 4 → k ≠ 5 → ρ1 k i = ρ k i := fun k i k2 k3 k4 k5 => by rw [k1 k k2 k3 k4, bn k i k4 k5]
  obtain ⟨μ1, hμ1⟩ : ∃ u : jx_St, u = jx_su (jx_su (jx_su (jx_su (jx_su μ 14 0 0) 13 0 0) 11 0 x) 12 0 l) 13 0 (0 + 1) := ⟨_, rfl⟩
  have m1 : ∀ z i, z ≠ 11 → z ≠ 12 → z ≠ 13 → z ≠ 14 → μ1 z i = μ z i := fun z i z11 z12 z13 z14 => by rw [hμ1, jx_su_ne z13, jx_su_ne z12, jx_su_ne z11, jx_su_ne z13, jx_su_ne z14]
  have g13 : μ1 13 0 = 1 := by rw [hμ1]; exact jx_su_eq
  have g14 : μ1 14 0 = 0 := by rw [hμ1, jx_su_ne (by decide), jx_su_ne (by decide), jx_su_ne (by decide), jx_su_ne (by decide)]; exact jx_su_eq
  have g11 : μ1 11 0 = x := by rw [hμ1, jx_su_ne (by decide), jx_su_ne (by decide)]; exact jx_su_eq
  have g12 : μ1 12 0 = l := by rw [hμ1, jx_su_ne (by decide)]; exact jx_su_eq
  have hKm1 : Km μ μ1 := ⟨fun z hz => by
    obtain ⟨z0, z7, z8, z9, z10, z11, z12, z13, z14, _⟩ := km_ne hz
    funext i; exact m1 z i z11 z12 z13 z14, m1 0 3 (by decide) (by decide) (by decide) (by decide)⟩
  have startM : ∀ Qm : jx_St → Prop, jx_lp (fI Qm x l) μ1 → wp_M_insertion Qm μ x l := fun Qm hlp => by
    refine m_waits (by rw [m13]; decide) (by rw [m13]; decide) (fun b hb => ?_)
    rw [m13, ← hμ1] at hb
    rw [hb]
    exact hlp
  have ew : wtl ρ1 (ρ1 4 0).toNat = [(x, l)] := by
    rw [e4]
    show (ρ1 2 ((0 : Nat) : Int), ρ1 3 ((0 : Nat) : Int)) :: [] = [(x, l)]
    rw [show ((0 : Nat) : Int) = 0 from rfl, e2, e3]
  have hR1 : Rs ρ1 σ μ1 P0 ρ1 σ μ1 := ⟨by rw [ew]; exact hW, hH, hA.of (by funext i; exact m1 0 i (by decide) (by decide) (by decide) (by decide)), Kp.rfl' σ, ⟨by rw [g14, r5], by rw [r5]; decide, by rw [g13, e4]; rfl, by rw [e4]; decide, fun j j0 j1 => by
    rw [e4] at j1
    have : j = 0 := by omega
    rw [this, g11, g12, e2, e3]
    exact ⟨rfl, rfl⟩, by rw [m1 17 0 (by decide) (by decide) (by decide) (by decide), r8 8 0 (by decide) (by decide) (by decide) (by decide)]; exact hC.1, by rw [r8 8 0 (by decide) (by decide) (by decide) (by decide)]; exact hC.2.1, fun j j0 j1 => by
    rw [r8 8 0 (by decide) (by decide) (by decide) (by decide)] at j1
    rw [m1 15 j (by decide) (by decide) (by decide) (by decide), m1 16 j (by decide) (by decide) (by decide) (by decide), r8 6 j (by decide) (by decide) (by decide) (by decide), r8 7 j (by decide) (by decide) (by decide) (by decide)]
    exact hC.2.2 j j0 j1⟩, rfl, Int.le_refl _, Int.le_refl _, by rw [ew]; exact hl, Km.rfl' μ1, Cq.rfl' ρ1 σ⟩
  have w9 : ρ1 4 0 + 2 * unc (ρ1 5 0) = 9 := by rw [e4, r5, unc_0]; decide
  have c48 : ρ1 8 0 + unc (ρ1 5 0) ≤ 48 := by rw [r5, unc_0, r8 8 0 (by decide) (by decide) (by decide) (by decide)]; omega
  refine jx_loop (fun v => ∃ μ', Rs ρ1 σ μ1 P0 v.1 v.2.2.1 μ' ∧ Al v.2.2.1 ∧ 0 ≤ v.2.2.2 ∧ v.2.2.2 + (v.1 4 0 + 2 * unc (v.1 5 0)) ≤ 9 ∧ ∀ Qm, jx_lp (fI Qm x l) μ' → jx_lp (fI Qm x l) μ1) (fun v => (64 - v.2.2.2).toNat) (fun B v hI hB => ?_) ⟨μ1, hR1, hAl, Int.le_refl _, by dsimp only; omega, fun _ z => z⟩
  obtain ⟨ρ2, ψ2, σ2, t⟩ := v
  obtain ⟨μ2, hR, hAl2, t0, tb, hgo⟩ := hI
  dsimp only at hR hAl2 t0 tb hgo ⊢
  obtain ⟨hW2, hH2, hA2, hK2, hC2, h92, hw2, hc2, hl2, hM2, hq2⟩ := id hR
  have u0 := (unc_bd (ρ2 5 0)).1
  obtain ⟨c14, c5, c13, c4, cw, ccr⟩ := hC2
  refine ⟨jx_inR (by omega) (by omega), fun _ => ⟨jx_inR (by omega) (by omega), fun q => ?_, fun q => ?_⟩, fun q => absurd (show t < 64 by omega) q⟩
  · have e0 : ρ2 4 0 = 0 := by omega
    have ew0 : wtl ρ2 (ρ2 4 0).toNat ++ P0 = P0 := by rw [e0]; rfl
    rw [ew0] at hW2 hl2
    refine h ρ2 ψ2 σ2 μ2 hW2 hH2 hAl2 hA2 hK2 ccr (h92.trans (by funext i; exact r8 9 i (by decide) (by decide) (by decide) (by decide))) ?_ hl2 ⟨hKm1.trans' hM2, by rw [hq2.1, r8 8 0 (by decide) (by decide) (by decide) (by decide)], fun e0 => hq2.2 (fun j j0 j1 => by rw [r8 8 0 (by decide) (by decide) (by decide) (by decide)] at j1; omega)⟩ (fun Qm hQ => startM Qm (hgo Qm (lp_done (fun B' => ?_))))
    · rw [r5, unc_0, r8 8 0 (by decide) (by decide) (by decide) (by decide)] at hc2
      omega
    · exact ⟨jx_inR (by omega) (by omega), fun _ => hQ, fun z => absurd (show μ2 13 0 ≤ 0 by omega) z⟩
  · -- what comes next
    have s4 : jx_su ρ2 4 0 (ρ2 4 0 - 1) 4 0 = ρ2 4 0 - 1 := jx_su_eq
    have sn : ∀ k i, k ≠ 4 → jx_su ρ2 4 0 (ρ2 4 0 - 1) k i = ρ2 k i := fun k i hk => jx_su_ne hk
    have a2 : jx_at 64 (jx_su ρ2 4 0 (ρ2 4 0 - 1) 2) (ρ2 4 0 - 1) = ρ2 2 (ρ2 4 0 - 1) := by rw [jx_at_in (by omega) (by show ρ2 4 0 - 1 < 64; omega)]; exact sn 2 _ (by decide)
    have a3 : jx_at 64 (jx_su ρ2 4 0 (ρ2 4 0 - 1) 3) (ρ2 4 0 - 1) = ρ2 3 (ρ2 4 0 - 1) := by rw [jx_at_in (by omega) (by show ρ2 4 0 - 1 < 64; omega)]; exact sn 3 _ (by decide)
    rw [s4, a2, a3]
    generalize hy : ρ2 2 (ρ2 4 0 - 1) = y
    generalize hm : ρ2 3 (ρ2 4 0 - 1) = m
    generalize hρ3 : jx_su ρ2 4 0 (ρ2 4 0 - 1) = ρ3 at s4 sn
    have ewp : wtl ρ2 (ρ2 4 0).toNat = (y, m) :: wtl ρ3 (ρ3 4 0).toNat := by
      have e : (ρ2 4 0).toNat = (ρ2 4 0 - 1).toNat + 1 := by omega
      rw [e]
      simp only [wtl]
      rw [show (((ρ2 4 0 - 1).toNat : Nat) : Int) = ρ2 4 0 - 1 by omega, hy, hm, s4, wtl_same (ρ := ρ2) (ρ' := ρ3) _ (fun j _ _ => ⟨sn 2 j (by decide), sn 3 j (by decide)⟩)]
    rw [ewp] at hW2 hl2
    have hmem : (y, m) ∈ (y, m) :: wtl ρ3 (ρ3 4 0).toNat ++ P0 := List.mem_append_left _ List.mem_cons_self
    have hml : m ≤ σ2 2 (σ2 7 0) := hl2 (y, m) hmem
    obtain ⟨m0, htv, hvb, hlv⟩ := wait_ok hW2 hH2 hmem
    have r3 := hW2.1.2.1
    have hh : ∀ z, lvn σ2 z → vbo (σ2 4 z) := fun z hz => hH2.1 z hz.1
    have h1 : ∀ z, lvn σ2 z → 0 < σ2 2 z → 1 ≤ σ2 3 z := fun z hz z0 => ((hW2.2.2.2.1 z hz).2.2.resolve_left List.not_mem_nil).2 z0
    refine ⟨jx_inR (by omega) (by omega), jx_inR (by omega) (by omega), p_hull (jx_inR (by omega) (by omega)) htv (p_nodeFor hW2.sh hh h1 hW2.1.1 ⟨m0, hml⟩ (Or.inr hvb) ?_)⟩
    obtain ⟨n1, n2⟩ := dsc_ok (b := hv σ2 y m) hW2.sh h1 m0 8 (σ2 7 0) hW2.1.1 hml (by show σ2 2 (σ2 7 0) - m ≤ 8; omega)
    generalize hn : dsc σ2 (hv σ2 y m) m 8 (σ2 7 0) = n at n1 n2
    have n4 := hAl2 n n1
    have n0 := (hW2.sh.1 n n1).1
    refine p_sizeOf n1.1 (p_add n1.1 ⟨n0, by omega⟩ ⟨n0, Int.le_refl _⟩ (hW2.R2 n1) (by rw [n2]; exact htv) ?_)
    have hWa : Ws (adF σ2 n (σ2 3 n) y) (wtl ρ3 (ρ3 4 0).toNat ++ P0) [] := ws_attach hW2 n1 n2 n4 ⟨n0, Int.le_refl _⟩
    have hHa := hs_ad (p := σ2 3 n) (x := y) hW2 hH2 n1 n4 ⟨n0, Int.le_refl _⟩
    have hna : lvn (adF σ2 n (σ2 3 n) y) n := ⟨n1.1, by rw [adF_2]; exact n1.2⟩
    refine p_refresh2 (t := -1) hWa hHa hna (fun z hz => Or.inl (List.mem_singleton.mp hz)) (fun σ3 t1 t2 t3 => ?_)
    have t4 : Hs σ3 [] := t3.sub (fun z hz => Or.inr (fun q => by
      have := q.1.1
      rw [List.mem_singleton] at hz
      omega))
    have x2 : ∀ z, σ3 2 z = σ2 2 z := fun z => by rw [t1 2 (by decide)]; exact adF_2
    have x7 : σ3 7 0 = σ2 7 0 := by rw [t1 7 (by decide)]; exact adF_n (by decide) (by decide) (by decide) (by decide)
    have x3 : ∀ z, σ3 3 z = if z = n then σ2 3 n + 1 else σ2 3 z := fun z => by rw [t1 3 (by decide)]; simp [adF]
    have xl : ∀ z, lvn σ3 z ↔ lvn σ2 z := fun z => by unfold lvn; rw [x2]
    have hK3 : Kp σ2 σ3 := by
      refine ⟨by funext i; rw [t1 0 (by decide)]; exact adF_n (by decide) (by decide) (by decide) (by decide), by funext i; rw [t1 10 (by decide)]; exact adF_n (by decide) (by decide) (by decide) (by decide), by rw [x7, x2]; exact Int.le_refl _, fun hR => ?_⟩
      unfold R2 at hR ⊢
      rw [x7, x2, x3]
      intro z
      have := hR z
      by_cases e : σ2 7 0 = n
      · rw [if_pos e, ← e]; omega
      · rw [if_neg e]; exact this
    -- the reference
    obtain ⟨μ3, hμ3⟩ : ∃ u : jx_St, u = jx_su μ2 13 0 (μ2 13 0 - 1) := ⟨_, rfl⟩
    have v13 : μ3 13 0 = ρ2 4 0 - 1 := by rw [hμ3, jx_su_eq, c13]
    have vn : ∀ z, z ≠ 13 → μ3 z = μ2 z := fun z hz => by rw [hμ3]; funext i; exact jx_su_ne hz
    have hA3 : Ag σ2 μ3 := hA2.of (vn 0 (by decide))
    have hV2 := vh_of hW2 hH2
    obtain ⟨μ4, ⟨l1, l2⟩, lg⟩ := g_lay hW2 hH2 hA3
    have hA4 : Ag σ2 μ4 := hA3.of (l1 0 (by decide) (by decide))
    have hsd : sdk σ2 μ4 y m := by
      have ha := (hW2.2.2.2.2.2.2.2.1 y m hmem).1
      refine ⟨fun z => ?_, fun z => ?_⟩
      · rcases ha with ⟨_, b, c⟩ | ⟨a, _⟩
        · exact ⟨b, c⟩
        · omega
      · have := hlv (by omega)
        exact ⟨this.1.1, (l2 y this.1).1 this.2⟩
    obtain ⟨⟨μ5, d, n'⟩, ⟨y1, y2, y3, p, y4, y5⟩, yg⟩ := g_way hW2 hV2 hA4 l2 hsd ⟨m0, hml⟩ hvb
    dsimp only at y1 y2 y3 y4 y5
    rw [hn] at y2
    subst y2
    have hA5 : Ag σ2 μ5 := hA4.of (y1 0 (by decide) (by decide))
    have hS5 : ∀ z, lvn σ2 z → 0 ≤ σ2 3 z ∧ σ2 3 z ≤ 5 := fun z hz => ⟨(hW2.sh.1 z hz).1, (hW2.sh.1 z hz).2.1⟩
    obtain ⟨μ6, ⟨z1, z2, z3⟩, zg⟩ := g_puts (p := σ2 3 n') (x := y) hA5 hS5 n1 n4 ⟨n0, Int.le_refl _⟩
    have f6 : ∀ z, z ≠ 0 → z ≠ 7 → z ≠ 8 → z ≠ 9 → z ≠ 13 → z ≠ 23 → μ6 z = μ2 z := fun z h0 h7 h8 h9 h13 h23 => by rw [z1 z h0, y1 z h9 h23, l1 z h7 h8, vn z h13]
    have f13 : μ6 13 0 = ρ2 4 0 - 1 := by rw [z1 13 (by decide), y1 13 (by decide) (by decide), l1 13 (by decide) (by decide), v13]
    have hA6 : Ag σ3 μ6 := z2.obs (by rw [t1 7 (by decide)]) (fun z => by rw [t1 2 (by decide)]) (fun z _ => by rw [t1 3 (by decide)]) (fun z k _ _ _ => by unfold th; rw [t1 6 (by decide)]) (fun c _ => by rw [t1 0 (by decide)]) (by rw [t1 8 (by decide)]) (by rw [t1 9 (by decide)])
    have e23 : kmL.contains 23 = true := by decide
    have hKm6 : Km μ2 μ6 := ⟨fun z hz => by
      obtain ⟨z0, z7, z8, z9, z10, z11, z12, z13, z14, z15, z16, z17, z21, z22, z23⟩ := km_ne hz
      exact f6 z z0 z7 z8 z9 z13 z23, by rw [z3, y1 0 (by decide) (by decide), l1 0 (by decide) (by decide), vn 0 (by decide)]⟩
    have hC3 : WC ρ3 μ6 := by
      refine ⟨?_, by rw [sn 5 0 (by decide)]; exact c5, by rw [f13, s4], by rw [s4]; omega, fun j j0 j1 => ?_, ?_, ?_, fun j j0 j1 => ?_⟩
      · rw [f6 14 (by decide) (by decide) (by decide) (by decide) (by decide) (by decide), sn 5 0 (by decide), c14]
      · rw [s4] at j1
        rw [f6 11 (by decide) (by decide) (by decide) (by decide) (by decide) (by decide), f6 12 (by decide) (by decide) (by decide) (by decide) (by decide) (by decide), sn 2 j (by decide), sn 3 j (by decide)]
        exact cw j j0 (by omega)
      · rw [f6 17 (by decide) (by decide) (by decide) (by decide) (by decide) (by decide), sn 8 0 (by decide)]; exact ccr.1
      · rw [sn 8 0 (by decide)]; exact ccr.2.1
      · rw [sn 8 0 (by decide)] at j1
        rw [f6 15 (by decide) (by decide) (by decide) (by decide) (by decide) (by decide), f6 16 (by decide) (by decide) (by decide) (by decide) (by decide) (by decide), sn 6 j (by decide), sn 7 j (by decide)]
        exact ccr.2.2 j j0 j1
    have hl3 : ∀ a ∈ wtl ρ3 (ρ3 4 0).toNat ++ P0, a.2 ≤ σ3 2 (σ3 7 0) := fun a ha => by
      rw [x7, x2]
      exact hl2 a (by rw [List.cons_append]; exact List.mem_cons_of_mem _ ha)
    have hR3 : Rs ρ3 σ3 μ6 P0 ρ3 σ3 μ6 := ⟨t2, t4, hA6, Kp.rfl' σ3, hC3, rfl, Int.le_refl _, Int.le_refl _, hl3, Km.rfl' μ6, Cq.rfl' ρ3 σ3⟩
    have e5 : ρ3 5 0 = ρ2 5 0 := sn 5 0 (by decide)
    have e8 : ρ3 8 0 = ρ2 8 0 := sn 8 0 (by decide)
    refine climb hR3 (kids_push hW2 y4 n4 t1) (fun z hz hne => ?_) (by rw [x3, if_pos rfl]; omega) (fun i i0 i1 => by rw [z1 23 (by decide)]; exact y5 i i0 i1) (by rw [s4, e5]; omega) (by rw [e8, e5]; omega) (fun ρ4 ψ4 σ4 μ7 hR4 hAl4 hgo4 => ?_)
    · rw [x3, if_neg hne]; exact hAl2 z ((xl z).mp hz)
    · obtain ⟨q1, q2, q3, q4, q5, q6, q7, q8, q9, q10, q11⟩ := hR4
      have hq23 : Cq ρ2 σ2 ρ3 σ3 := ⟨by rw [sn 8 0 (by decide), show σ3 8 0 = σ2 8 0 by rw [t1 8 (by decide)]; exact adF_n (by decide) (by decide) (by decide) (by decide)], fun q => q.of (sn 8 0 (by decide)) (by funext i; exact sn 6 i (by decide)) (by funext i; exact sn 7 i (by decide)) (sn 5 0 (by decide)) (by rw [x7, x2]; exact Int.le_refl _)⟩
      rw [s4, e5] at q7
      rw [e8, e5] at q8
      refine hB _ ⟨μ7, ⟨q1, q2, q3, hK2.trans' (hK3.trans' q4), q5, ?_, by dsimp only; omega, by dsimp only; omega, q9, hM2.trans' (hKm6.trans' q10), hq2.trans' (hq23.trans' q11)⟩, hAl4, by dsimp only; omega, by dsimp only; omega, fun Qm hQ => hgo Qm (lp_step (a' := μ7) (fun B' hB' => ?_) hQ)⟩ (by dsimp only; omega)
      · dsimp only
        rw [q6, ← h92]; funext i; exact sn 9 i (by decide)
      · show wp_M_insertion_16 Qm x l B' μ2
        unfold wp_M_insertion_16
        rw [← hμ3, v13]
        have v11 : μ3 11 (ρ2 4 0 - 1) = y := by rw [vn 11 (by decide), (cw _ (by omega) (by omega)).1, hy]
        have v12 : μ3 12 (ρ2 4 0 - 1) = m := by rw [vn 12 (by decide), (cw _ (by omega) (by omega)).2, hm]
        rw [v11, v12]
        refine ⟨jx_inR (by omega) (by omega), fun z => absurd z (by omega), fun _ => ⟨⟨by omega, by show ρ2 4 0 - 1 < 24; omega⟩, ⟨by omega, by show ρ2 4 0 - 1 < 24; omega⟩, lg _ ?_⟩⟩
        have e0 : μ4 0 0 = σ2 7 0 := hA4.1
        rw [e0]
        exact yg _ _ (m_manyOf hA5 n1 (zg _ (hgo4 (fun s => B' s) y m hB')))
