/-! ===== the pure part: the reference lays its boxes ===== -/
theorem Ag.of {σ μ μ' : jx_St} (h : Ag σ μ) (e : μ' 0 = μ 0) : Ag σ μ' := by unfold Ag at h ⊢; rw [e]; exact h
theorem sdk.of {σ μ μ' : jx_St} {x l : Int} (h : sdk σ μ x l) (e : l ≠ 0 → ∀ k, 0 ≤ k → k < 4 → μ' 7 (4 * x + k) = μ 7 (4 * x + k)) : sdk σ μ' x l :=
  ⟨h.1, fun q => ⟨(h.2 q).1, fun k k0 k1 => by rw [e q k k0 k1]; exact (h.2 q).2 k k0 k1⟩⟩
theorem g_59 {σ μ : jx_St} {n l i x : Int} (hA : Ag σ μ) (hn : nd n) (hl : jx_R l) (hi : jx_R i) (hs : sdk σ μ x l) (hx : l ≠ 0 → x ≠ n) (hR : i ≠ 0 → ∀ k, 0 ≤ k → k < 4 → jx_R (μ 7 (4 * n + k))) : ∃ b : jx_St, ((∀ q, q ≠ 7 → b q = μ q) ∧ (∀ j, (j < 4 * n ∨ 4 * n + 4 ≤ j) → b 7 j = μ 7 j) ∧ ∀ k, 0 ≤ k → k < 4 → b 7 (4 * n + k) = if i = 0 then bs (hv σ x l) k else sw k (μ 7 (4 * n + k)) (bs (hv σ x l) k)) ∧ ∀ (g : jx_St → Prop) (K : jx_St → Prop), K b → jx_lp (fun B v => wp_M_layNode_59 g n K l i x B v.1 v.2) (μ, 0) := by
  have n0 := hn.1
  have n1 := hn.2
  refine go_loop (γ := jx_St → Prop) (F := fun g K B (v : jx_St × Int) => wp_M_layNode_59 g n K l i x B v.1 v.2) (fun v => 0 ≤ v.2 ∧ v.2 ≤ 4 ∧ (∀ q, q ≠ 7 → v.1 q = μ q) ∧ (∀ j, (j < 4 * n ∨ 4 * n + v.2 ≤ j) → v.1 7 j = μ 7 j) ∧ ∀ k, 0 ≤ k → k < v.2 → v.1 7 (4 * n + k) = if i = 0 then bs (hv σ x l) k else sw k (μ 7 (4 * n + k)) (bs (hv σ x l) k)) (fun v => (4 - v.2).toNat) _ (fun v hI => ?_) ⟨Int.le_refl _, by show (0 : Int) ≤ 4; decide, fun _ _ => rfl, fun _ _ => rfl, fun k k0 k1 => by exfalso; dsimp only at k1; omega⟩
  obtain ⟨μ1, k⟩ := v
  obtain ⟨a1, a2, a3, a4, a5⟩ := hI
  dsimp only at a1 a2 a3 a4 a5 ⊢
  by_cases q : k < 4
  · right
    have hA1 : Ag σ μ1 := hA.of (a3 0 (by decide))
    have hs1 : sdk σ μ1 x l := hs.of (fun z j j0 j1 => a4 _ (by have := hx z; have := ((hs.2 z).1).1; omega))
    have e7 : μ1 7 (4 * n + k) = μ 7 (4 * n + k) := a4 _ (by omega)
    refine ⟨(jx_su μ1 7 (4 * n + k) (if i = 0 then bs (hv σ x l) k else sw k (μ 7 (4 * n + k)) (bs (hv σ x l) k)), k + 1), ⟨by dsimp only; omega, by dsimp only; omega, fun z hz => by funext j; dsimp only; rw [jx_su_ne hz, a3 z hz], fun j hj => ?_, fun j j0 j1 => ?_⟩, by dsimp only; omega, fun g K B hB => ?_⟩
    · dsimp only at hj ⊢
      rw [jx_su_same, if_neg (by omega)]
      exact a4 j (by omega)
    · dsimp only at j1 ⊢
      rw [jx_su_same]
      by_cases z : j = k
      · rw [if_pos (by omega), z]
      · rw [if_neg (by omega)]; exact a5 j j0 (by omega)
    · have fin : ∀ v, v = (if i = 0 then bs (hv σ x l) k else sw k (μ 7 (4 * n + k)) (bs (hv σ x l) k)) → wp_M_layNode_131 g n B K μ1 l i x k (4 * n + k) v := by
        intro v hv
        refine ⟨⟨by omega, by show 4 * n + k < 160; omega⟩, ?_⟩
        rw [hv]
        exact hB
      refine ⟨jx_inR (by omega) (by omega), fun _ => m_side hA1 hs1 hl a1 q ⟨⟨by omega, by show 4 * n + k < 160; omega⟩, hi, fun z => fin _ (by rw [if_pos z]), fun z => ⟨jx_inR (by omega) (by omega), fun y => ?_, fun y => ?_⟩⟩, fun z => absurd q z⟩
      · rw [e7]
        exact m_least (hR z k a1 q) (bs_R _ _) (fin _ (by rw [if_neg z]; unfold sw; rw [if_pos y]))
      · rw [e7]
        exact m_most (hR z k a1 q) (bs_R _ _) (fin _ (by rw [if_neg z]; unfold sw; rw [if_neg y]))
  · left
    have e : k = 4 := by omega
    subst e
    exact ⟨μ1, ⟨a3, a4, a5⟩, fun g K B hK => ⟨jx_inR (by decide) (by decide), fun z => absurd z q, fun _ => hK⟩⟩
theorem g_layNode {σ μ : jx_St} {P : List (Int × Int)} {n : Int} (hW : Ws σ P []) (hV : Vh σ) (hA : Ag σ μ) (hn : lvn σ n) (hloc : loc σ n) (hk : ∀ x, x ∈ kids σ n → 0 < σ 2 n → ∀ k, 0 ≤ k → k < 4 → μ 7 (4 * x + k) = bs (σ 4 x) k) : ∃ b : jx_St, ((∀ q, q ≠ 7 → q ≠ 8 → b q = μ q) ∧ (∀ j, (j < 4 * n ∨ 4 * n + 4 ≤ j) → b 7 j = μ 7 j) ∧ (∀ m, m ≠ n → b 8 m = μ 8 m) ∧ Lai σ b n) ∧ ∀ (Q : jx_St → Prop), Q b → wp_M_layNode Q μ n := by
  have n0 := hn.1.1
  have n1 := hn.1.2
  have s3 := hW.sh.1 n hn
  have kne : ∀ k, 0 ≤ k → k < σ 3 n → σ 2 n ≠ 0 → th σ n k ≠ n := fun k k0 k1 z e => by
    have := (hW.kid hn (by have := hn.2; omega) (th_kids k0 k1)).2.1
    rw [e] at this
    omega
  have loop : ∃ b : jx_St, ((∀ q, q ≠ 7 → q ≠ 8 → b q = μ q) ∧ (∀ j, (j < 4 * n ∨ 4 * n + 4 ≤ j) → b 7 j = μ 7 j) ∧ (∀ m, m ≠ n → b 8 m = μ 8 m) ∧ Lai σ b n) ∧ ∀ (g : Unit) (K : jx_St → Prop), K b → jx_lp (fun B v => wp_M_layNode_15 K n (σ 2 n) B v.1 v.2) (jx_su μ 8 n 0, 0) := by
    refine go_loop (γ := Unit) (F := fun _ K B (v : jx_St × Int) => wp_M_layNode_15 K n (σ 2 n) B v.1 v.2) (fun v => 0 ≤ v.2 ∧ v.2 ≤ σ 3 n ∧ (∀ q, q ≠ 7 → q ≠ 8 → v.1 q = μ q) ∧ (∀ j, (j < 4 * n ∨ 4 * n + 4 ≤ j) → v.1 7 j = μ 7 j) ∧ (∀ m, m ≠ n → v.1 8 m = μ 8 m) ∧ v.1 8 n = (if σ 2 n = 0 then v.2 else smL (μ 8) (fl (th σ n) v.2.toNat)) ∧ (1 ≤ v.2 → ∀ k, 0 ≤ k → k < 4 → v.1 7 (4 * n + k) = bs (rh σ n v.2.toNat) k)) (fun v => (σ 3 n - v.2).toNat) _ (fun v hI => ?_) ⟨Int.le_refl _, s3.1, fun q _ h8 => by funext j; exact jx_su_ne h8, fun j _ => by dsimp only; exact jx_su_ne (by decide), fun m hm => by dsimp only; rw [jx_su_same, if_neg hm], ?_, fun q => by exfalso; dsimp only at q; omega⟩
    · obtain ⟨μ1, i⟩ := v
      obtain ⟨a1, a2, a3, a4, a5, a6, a7⟩ := hI
      dsimp only at a1 a2 a3 a4 a5 a6 a7 ⊢
      have hA1 : Ag σ μ1 := hA.of (a3 0 (by decide) (by decide))
      have ei : ((i.toNat : Nat) : Int) = i := Int.toNat_of_nonneg a1
      by_cases q : i < σ 3 n
      · right
        have hsd : sdk σ μ1 (th σ n i) (σ 2 n) := sdk_row hW hn (fun x hx hl k k0 k1 => by
          have hxl := hW.kid hn hl hx
          have := hxl.1.1.1
          have hne : x ≠ n := fun e => by have := hxl.2.1; rw [e] at this; omega
          rw [a4 _ (by omega)]
          exact hk x hx hl k k0 k1) a1 q
        have tk := Sh_tv hW.sh hn a1 q
        generalize hval : (if σ 2 n = 0 then μ1 8 n + 1 else μ1 8 n + μ1 8 (th σ n i)) = val
        obtain ⟨b, ⟨b1, b2, b3⟩, bg⟩ := g_59 (μ := jx_su μ1 8 n val) (i := i) (hA1.of (by funext j; exact jx_su_ne (by decide))) hn.1 (hW.R2 hn) (jx_inR (by omega) (by omega)) (hsd.of (fun _ k _ _ => jx_su_ne (by decide))) (fun z => kne i a1 q z) (fun z k k0 k1 => by
          rw [jx_su_ne (by decide), a7 (by omega) k k0 k1]
          exact bs_R _ _)
        refine ⟨(b, i + 1), ⟨by dsimp only; omega, by dsimp only; omega, fun z z7 z8 => ?_, fun j hj => ?_, fun m hm => ?_, ?_, fun _ k k0 k1 => ?_⟩, by dsimp only; omega, fun g K B hB => ?_⟩
        · dsimp only; rw [b1 z z7]; funext j; rw [jx_su_ne z8, a3 z z7 z8]
        · dsimp only; rw [b2 j hj, jx_su_ne (by decide)]; exact a4 j hj
        · dsimp only; rw [b1 8 (by decide), jx_su_same, if_neg hm]; exact a5 m hm
        · dsimp only
          rw [b1 8 (by decide), jx_su_eq, ← hval, show (i + 1).toNat = i.toNat + 1 by omega, fl_succ, smL_app, ei, a6]
          by_cases z : σ 2 n = 0
          · rw [if_pos z, if_pos z, if_pos z]
          · rw [if_neg z, if_neg z, if_neg z, a5 _ (kne i a1 q z)]
            show _ + _ = _ + (_ + 0)
            omega
        · dsimp only
          rw [b3 k k0 k1, show (i + 1).toNat = i.toNat + 1 by omega]
          simp only [rh]
          rw [ei]
          have hv := hV n i hn a1 q
          by_cases z : i = 0
          · rw [if_pos z, z]
            show _ = bs (ar (-1) _) k
            unfold ar
            rw [if_pos rfl]
          · rw [if_neg z, jx_su_ne (by decide), a7 (by omega) k k0 k1]
            rcases rh_vb (fun k k0 k1 => hV n k hn k0 k1) i.toNat (by omega) with w | w
            · omega
            · exact (sw_ar w.2 hv k0 k1).symm
        · refine m_manyOf hA1 hn ⟨jx_inR (by omega) (by omega), jx_inR (by omega) (by omega), fun _ => m_thing hA1 hn s3.2.1 a1 q ⟨⟨by omega, by show n < 40; omega⟩, hW.R2 hn, fun z => ⟨⟨by omega, by show n < 40; omega⟩, ?_⟩, fun z => ⟨?_, ⟨by omega, by show n < 40; omega⟩, ?_⟩⟩, fun z => absurd q z⟩
          · rw [if_pos z] at hval
            rw [hval]
            exact bg K _ hB
          · unfold tv at tk
            rw [if_neg z] at tk
            exact ⟨tk.1, by have := tk.2; show th σ n i < 40; omega⟩
          · rw [if_neg z] at hval
            rw [hval]
            exact bg K _ hB
      · left
        have e : i = σ 3 n := by omega
        subst e
        refine ⟨μ1, ⟨a3, a4, a5, fun h1 k k0 k1 => ?_, ?_⟩, fun g K B hK => m_manyOf hA1 hn ⟨jx_inR (by omega) (by omega), jx_inR (by omega) (by omega), fun z => absurd z q, fun _ => hK⟩⟩
        · rw [a7 h1 k k0 k1, hloc]
        · rw [a6]
          by_cases z : σ 2 n = 0
          · rw [if_pos z, if_pos z]
          · rw [if_neg z, if_neg z, ← kids_fl]
            refine smL_congr (fun x hx => ?_)
            obtain ⟨k, k0, k1, e⟩ := mem_kids.mp hx
            rw [← e, a5 _ (kne k k0 k1 z)]
    · dsimp only
      rw [jx_su_eq]
      by_cases z : σ 2 n = 0
      · rw [if_pos z]
      · rw [if_neg z]; rfl
  obtain ⟨b, hb, g⟩ := loop
  exact ⟨b, hb, fun Q hQ => m_level hA hn.1 ⟨⟨by omega, by show n < 40; omega⟩, g () Q hQ⟩⟩
theorem g_lay18 {σ μ : jx_St} {P : List (Int × Int)} {l : Int} (hW : Ws σ P []) (hH : Hs σ []) (hA : Ag σ μ) (hl : 0 ≤ l ∧ l ≤ 3) (hL : ∀ m, lvn σ m → σ 2 m < l → Lai σ μ m) : ∃ b : jx_St, ((∀ q, q ≠ 7 → q ≠ 8 → b q = μ q) ∧ (∀ m, lvn σ m → σ 2 m < l + 1 → Lai σ b m)) ∧ ∀ (g : jx_St → Prop) (K : jx_St → Prop), K b → jx_lp (fun B v => wp_M_lay_18 g K l B v.1 v.2) (μ, 0) := by
  have hV := vh_of hW hH
  refine go_loop (γ := jx_St → Prop) (F := fun g K B (v : jx_St × Int) => wp_M_lay_18 g K l B v.1 v.2) (fun v => 0 ≤ v.2 ∧ v.2 ≤ 40 ∧ (∀ q, q ≠ 7 → q ≠ 8 → v.1 q = μ q) ∧ (∀ m, lvn σ m → (σ 2 m < l ∨ (σ 2 m = l ∧ m < v.2)) → Lai σ v.1 m)) (fun v => (40 - v.2).toNat) _ (fun v hI => ?_) ⟨Int.le_refl _, by show (0 : Int) ≤ 40; decide, fun _ _ _ => rfl, fun m hm h => hL m hm (by rcases h with h | ⟨_, h⟩; exact h; exact absurd h (by have := hm.1.1; show ¬ m < 0; omega))⟩
  obtain ⟨μ1, n⟩ := v
  obtain ⟨a1, a2, a3, a4⟩ := hI
  dsimp only at a1 a2 a3 a4 ⊢
  have hA1 : Ag σ μ1 := hA.of (a3 0 (by decide) (by decide))
  by_cases q : n < 40
  · right
    have lvR : jx_R (if n < 32 then σ 2 n else -1) := by
      by_cases z : n < 32
      · rw [if_pos z]
        rcases hW.2.1 n ⟨a1, z⟩ with y | y
        · rw [y]; exact jx_inR (by decide) (by decide)
        · have := hW.1.2.1; exact jx_inR (by omega) (by omega)
      · rw [if_neg z]; exact jx_inR (by decide) (by decide)
    by_cases y : (if n < 32 then σ 2 n else -1) = l
    · have n32 : n < 32 := Decidable.byContradiction (fun z => by rw [if_neg z] at y; omega)
      rw [if_pos n32] at y
      have hn : lvn σ n := ⟨⟨a1, n32⟩, by omega⟩
      obtain ⟨b, ⟨b1, b2, b3, b4⟩, bg⟩ := g_layNode hW hV hA1 hn (hH.2 n hn List.not_mem_nil) (fun x hx h0 k k0 k1 => by
        obtain ⟨c1, c2, _, c4⟩ := hW.kid hn h0 hx
        exact (a4 x c1 (Or.inl (by omega))).1 (by have := ((hW.2.2.2.1 x c1).2.2.resolve_left List.not_mem_nil).1 c4; omega) k k0 k1)
      refine ⟨(b, n + 1), ⟨by dsimp only; omega, by dsimp only; omega, fun z z7 z8 => by dsimp only; rw [b1 z z7 z8, a3 z z7 z8], fun m hm h => ?_⟩, by dsimp only; omega, fun g K B hB => ⟨jx_inR (by omega) (by omega), fun _ => m_levelOf hA1 a1 q ⟨lvR, jx_inR (by omega) (by omega), fun _ => bg _ hB, fun z => absurd (by rw [if_pos n32]; exact y) z⟩, fun z => absurd q z⟩⟩
      dsimp only at h ⊢
      by_cases z : m = n
      · rw [z]; exact b4
      · obtain ⟨c1, c2⟩ := a4 m hm (by omega)
        refine ⟨fun h1 k k0 k1 => by rw [b2 _ (by omega)]; exact c1 h1 k k0 k1, ?_⟩
        rw [b3 m z, c2]
        by_cases w : σ 2 m = 0
        · rw [if_pos w, if_pos w]
        · rw [if_neg w, if_neg w]
          refine smL_congr (fun x hx => (b3 x (fun e => ?_)).symm)
          have := (hW.kid hm (by have := hm.2; omega) hx).2.1
          rw [e] at this
          omega
    · refine ⟨(μ1, n + 1), ⟨by dsimp only; omega, by dsimp only; omega, a3, fun m hm h => a4 m hm ?_⟩, by dsimp only; omega, fun g K B hB => ⟨jx_inR (by omega) (by omega), fun _ => m_levelOf hA1 a1 q ⟨lvR, jx_inR (by omega) (by omega), fun z => absurd z y, fun _ => hB⟩, fun z => absurd q z⟩⟩
      dsimp only at h
      rcases h with h | ⟨h, h2⟩
      · exact Or.inl h
      · refine Or.inr ⟨h, ?_⟩
        by_cases z : m = n
        · exfalso
          rw [z] at h hm
          rw [if_pos hm.1.2] at y
          exact y h
        · omega
  · left
    refine ⟨μ1, ⟨a3, fun m hm h => a4 m hm ?_⟩, fun g K B hK => ⟨jx_inR (by omega) (by omega), fun z => absurd z q, fun _ => hK⟩⟩
    have := hm.1.2
    omega
theorem g_lay {σ μ : jx_St} {P : List (Int × Int)} (hW : Ws σ P []) (hH : Hs σ []) (hA : Ag σ μ) : ∃ b : jx_St, ((∀ q, q ≠ 7 → q ≠ 8 → b q = μ q) ∧ La σ b) ∧ ∀ (Q : jx_St → Prop), Q b → wp_M_lay Q μ := by
  have r3 := hW.1.2.1
  have r0 := hW.1.1.2
  have loop : ∃ b : jx_St, ((∀ q, q ≠ 7 → q ≠ 8 → b q = μ q) ∧ La σ b) ∧ ∀ (g : Unit) (Q : jx_St → Prop), Q b → jx_lp (fun B v => wp_M_lay_2 Q B v.1 v.2) (μ, 0) := by
    refine go_loop (γ := Unit) (F := fun _ K B (v : jx_St × Int) => wp_M_lay_2 K B v.1 v.2) (fun v => 0 ≤ v.2 ∧ v.2 ≤ σ 2 (σ 7 0) + 1 ∧ (∀ q, q ≠ 7 → q ≠ 8 → v.1 q = μ q) ∧ (∀ m, lvn σ m → σ 2 m < v.2 → Lai σ v.1 m)) (fun v => (σ 2 (σ 7 0) + 1 - v.2).toNat) _ (fun v hI => ?_) ⟨Int.le_refl _, by show 0 ≤ σ 2 (σ 7 0) + 1; omega, fun _ _ _ => rfl, fun m hm h => absurd h (by have := hm.2; show ¬ σ 2 m < 0; omega)⟩
    obtain ⟨μ1, l⟩ := v
    obtain ⟨a1, a2, a3, a4⟩ := hI
    dsimp only at a1 a2 a3 a4 ⊢
    have hA1 : Ag σ μ1 := hA.of (a3 0 (by decide) (by decide))
    by_cases q : l ≤ σ 2 (σ 7 0)
    · right
      obtain ⟨b, ⟨b1, b2⟩, bg⟩ := g_lay18 hW hH hA1 ⟨a1, by omega⟩ a4
      refine ⟨(b, l + 1), ⟨by dsimp only; omega, by dsimp only; omega, fun z z7 z8 => by dsimp only; rw [b1 z z7 z8, a3 z z7 z8], b2⟩, by dsimp only; omega, fun g K B hB => ?_⟩
      show wp_M_levelOf _ μ1 (μ1 0 0)
      rw [hA1.1]
      exact m_level hA1 hW.1.1.1 ⟨jx_inR (by omega) (by omega), jx_inR (by omega) (by omega), fun _ => bg K _ hB, fun z => absurd q z⟩
    · left
      refine ⟨μ1, ⟨a3, fun m hm => a4 m hm ?_⟩, fun g K B hK => ?_⟩
      · have := (hW.2.1 m hm.1).resolve_left (by have := hm.2; omega)
        omega
      · show wp_M_levelOf _ μ1 (μ1 0 0)
        rw [hA1.1]
        exact m_level hA1 hW.1.1.1 ⟨jx_inR (by omega) (by omega), jx_inR (by omega) (by omega), fun z => absurd z q, fun _ => hK⟩
  obtain ⟨b, hb, g⟩ := loop
  exact ⟨b, hb, fun Q hQ => g () Q hQ⟩
