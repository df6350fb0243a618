/-! ===== the pure part: both sides after a split ===== -/
theorem Ag.obs {σ σ' μ : jx_St} (h : Ag σ' μ) (e7 : σ 7 0 = σ' 7 0) (e2 : ∀ m, σ 2 m = σ' 2 m) (e3 : ∀ m, lvn σ m → σ 3 m = σ' 3 m) (et : ∀ m k, lvn σ m → 0 ≤ k → k < σ 3 m → th σ m k = th σ' m k) (e0 : ∀ b, nb b → σ 0 b = σ' 0 b) (e8 : σ 8 0 = σ' 8 0) (e9 : σ 9 0 = σ' 9 0) : Ag σ μ := by
  obtain ⟨c0, c1, c2, c3, c4, c5, c6, c7⟩ := h
  have lv' : ∀ m, lvn σ m → lvn σ' m := fun m hm => by unfold lvn at hm ⊢; rw [e2] at hm; exact hm
  refine ⟨by rw [e7]; exact c0, fun n n0 n1 => by rw [e2]; exact c1 n n0 n1, fun n hn => by rw [e3 n hn]; exact c2 n (lv' n hn), fun n k hn k0 k1 => ?_, fun b hb => by rw [e0 b hb]; exact c4 b hb, fun b k hb hne k0 k1 => ?_, by rw [e8]; exact c6, by rw [e9]; exact c7⟩
  · rw [et n k hn k0 k1]
    exact c3 n k (lv' n hn) k0 (by rw [← e3 n hn]; exact k1)
  · rw [e0 b hb] at hne ⊢
    exact c5 b k hb hne k0 k1
/-- what is put above, when a node is split that is not the root -/
theorem g_aboveA {σ τ τ' μ : jx_St} {P : List (Int × Int)} {n f ab k0 cut : Int} {c : Int → Int} (hn : lvn σ n) (hf : nd f) (he : σ 2 f = -1) (hc : 2 ≤ cut ∧ cut ≤ 3) (hab : lvn σ ab) (h2 : σ 2 ab = σ 2 n + 1) (h3 : σ 3 ab ≤ 4) (k00 : 0 ≤ k0) (k01 : k0 < σ 3 ab) (hk : th σ ab k0 = n) (hkf : ∀ k, 0 ≤ k → k < k0 → th σ ab k ≠ n) (hJ : spJ σ P n f cut c τ' 5) (hA : Ag (jx_su τ' 9 0 (τ' 9 0 + 1)) μ) (hs : spA σ P n f ab k0 cut c τ) : ∃ b : jx_St, ((∀ z, z ≠ 0 → b z = μ z) ∧ Ag τ b ∧ b 0 3 = μ 0 3) ∧ ∀ (Q : jx_St → Prop), Q b → wp_M_placeIn (fun r => wp_M_puts Q μ ab (r + 1) f) μ ab n := by
  obtain ⟨jW, _, j3n, j3f, jn, jf, j3, jt, j2, jr⟩ := hJ
  obtain ⟨sW, sH, s2, s3, sn, sf, sa, st, s9, sr⟩ := hs
  have l0 := hn.2
  have nf : n ≠ f := fun e => by rw [e, he] at l0; omega
  have af : ab ≠ f := fun e => by rw [e, he] at h2; omega
  have an : ab ≠ n := fun e => by rw [e] at h2; omega
  rw [show min 5 cut = cut by omega] at j3n j3f jn jf
  generalize hu : jx_su τ' 9 0 (τ' 9 0 + 1) = υ at hA
  have un : ∀ q i, q ≠ 9 → υ q i = τ' q i := fun q i h => by rw [← hu]; exact jx_su_ne h
  have uth : ∀ m k, th υ m k = th τ' m k := fun m k => un 6 _ (by decide)
  have u3 : υ 3 ab = σ 3 ab := by rw [un 3 _ (by decide)]; exact j3 ab an af
  have u2 : υ 2 ab = σ 2 ab := by rw [un 2 _ (by decide), j2, if_neg af]
  have lab : lvn υ ab := ⟨hab.1, by rw [u2]; exact hab.2⟩
  have ut : ∀ k, 0 ≤ k → k < 5 → th υ ab k = th σ ab k := fun k a b => by rw [uth]; exact jt ab k an af a b
  have hS : ∀ m, lvn υ m → 0 ≤ υ 3 m ∧ υ 3 m ≤ 5 := fun m hm => by
    have hm' : lvn τ' m := by unfold lvn at hm ⊢; rw [un 2 _ (by decide)] at hm; exact hm
    rw [un 3 _ (by decide)]
    exact ⟨(jW.sh.1 m hm').1, (jW.sh.1 m hm').2.1⟩
  obtain ⟨b, ⟨b1, b2, b3⟩, bg⟩ := g_puts (x := f) (p := k0 + 1) hA hS lab (by rw [u3]; exact h3) ⟨by omega, by rw [u3]; omega⟩
  have a3 : ∀ m, adF υ ab (k0 + 1) f 3 m = if m = ab then σ 3 ab + 1 else υ 3 m := fun m => by
    have : adF υ ab (k0 + 1) f 3 m = if m = ab then υ 3 ab + 1 else υ 3 m := by simp [adF]
    rw [this, u3]
  have e3 : ∀ m, τ 3 m = adF υ ab (k0 + 1) f 3 m := fun m => by
    rw [s3, a3]
    by_cases z : m = n
    · rw [if_pos z, if_neg (by rw [z]; exact fun e => an e.symm), z, un 3 _ (by decide), j3n]
    · rw [if_neg z]
      by_cases y : m = f
      · rw [if_pos y, if_neg (by rw [y]; exact fun e => af e.symm), y, un 3 _ (by decide), j3f]
      · rw [if_neg y]
        by_cases x : m = ab
        · rw [if_pos x, if_pos x]
        · rw [if_neg x, if_neg x, un 3 _ (by decide), j3 m z y]
  refine ⟨b, ⟨b1, ?_, b3⟩, fun Q hQ => ?_⟩
  · refine b2.obs ?_ (fun m => ?_) (fun m _ => e3 m) (fun m k hm k0' k1 => ?_) (fun c _ => ?_) ?_ ?_
    · rw [sr 7 0 (by decide) (by decide) (by decide) (by decide) (by decide) (by decide) (by decide), adF_n (by decide) (by decide) (by decide) (by decide), un 7 _ (by decide)]
      exact (jr 7 0 (by decide) (by decide) (by decide) (by decide) (by decide) (by decide)).symm
    · rw [s2, adF_2, un 2 _ (by decide), j2]
    · rw [s3] at k1
      by_cases z : m = n
      · rw [if_pos z] at k1
        subst z
        rw [th_ad_ne (fun e => an e.symm) k0' (by omega) (by rw [u3]; exact h3) ⟨by omega, by rw [u3]; omega⟩, uth, sn k k0' k1, jn k k0' k1]
      · rw [if_neg z] at k1
        by_cases y : m = f
        · rw [if_pos y] at k1
          subst y
          rw [th_ad_ne (fun e => af e.symm) k0' (by omega) (by rw [u3]; exact h3) ⟨by omega, by rw [u3]; omega⟩, uth, sf k k0' k1, jf k k0' k1]
        · rw [if_neg y] at k1
          by_cases x : m = ab
          · rw [if_pos x] at k1
            subst x
            rw [th_ad (by rw [u3]; omega), sa k k0' (by omega)]
            by_cases w : k = k0 + 1
            · rw [if_pos w, if_pos w]
            · rw [if_neg w, if_neg w]
              by_cases v : k0 + 1 < k
              · rw [if_pos v, if_pos v, ut _ (by omega) (by omega)]
              · rw [if_neg v, if_neg v, ut _ (by omega) (by omega)]
          · rw [if_neg x] at k1
            have h5 : k < 5 := by
              have := (sW.sh.1 m hm).2.1
              rw [s3, if_neg z, if_neg y, if_neg x] at this
              omega
            rw [th_ad_ne x k0' h5 (by rw [u3]; exact h3) ⟨by omega, by rw [u3]; omega⟩, uth, st m k z y x k0' h5, jt m k z y k0' h5]
    · rw [sr 0 _ (by decide) (by decide) (by decide) (by decide) (by decide) (by decide) (by decide), adF_n (by decide) (by decide) (by decide) (by decide), un 0 _ (by decide)]
      exact (jr 0 _ (by decide) (by decide) (by decide) (by decide) (by decide) (by decide)).symm
    · rw [sr 8 _ (by decide) (by decide) (by decide) (by decide) (by decide) (by decide) (by decide), adF_n (by decide) (by decide) (by decide) (by decide), un 8 _ (by decide)]
      exact (jr 8 _ (by decide) (by decide) (by decide) (by decide) (by decide) (by decide)).symm
    · rw [s9, if_pos rfl, adF_n (by decide) (by decide) (by decide) (by decide), ← hu, jx_su_eq, jr 9 0 (by decide) (by decide) (by decide) (by decide) (by decide) (by decide)]
  · refine m_placeIn hA lab (by rw [u3]; omega) hn.1.R (fun k a d => ?_) k00 (by rw [u3]; exact k01) (by rw [ut k0 k00 (by omega)]; exact hk) (fun k a d => by rw [ut k a (by omega)]; exact hkf k a d) (bg Q hQ)
    rw [u3] at d
    have hab' : lvn τ' ab := by unfold lvn at lab ⊢; rw [un 2 _ (by decide)] at lab; exact lab
    rw [uth]
    exact jW.th_R hab' a (by rw [j3 ab an af]; exact d)
/-- what is made above, when the root is split -/
theorem g_aboveB {σ τ τ' μ : jx_St} {P : List (Int × Int)} {n f g cut : Int} {c : Int → Int} (hn : lvn σ n) (hf : nd f) (he : σ 2 f = -1) (hc : 2 ≤ cut ∧ cut ≤ 3) (hg : nd g) (gf : g ≠ f) (ge : σ 2 g = -1) (g3 : σ 3 g = 0) (gl : ∀ j, 0 ≤ j → j < g → j ≠ f → σ 2 j ≠ -1) (hJ : spJ σ P n f cut c τ' 5) (hA : Ag (jx_su τ' 9 0 (τ' 9 0 + 1)) μ) (hs : spB σ P n f g cut c τ) : ∃ b : jx_St, ((∀ z, z ≠ 0 → b z = μ z) ∧ Ag τ b ∧ b 0 3 = μ 0 3) ∧ ∀ (Q : Int → jx_St → Prop), Q g b → wp_M_newNode (fun r s => wp_M_puts (fun s2 => wp_M_puts (fun s3 => Q r (jx_su s3 0 0 r)) s2 r 1 f) s r 0 n) μ (σ 2 n + 1) := by
  obtain ⟨jW, _, j3n, j3f, jn, jf, j3, jt, j2, jr⟩ := hJ
  obtain ⟨sW, sH, s2, s3, sn, sf, sg0, sg1, st, s9, s7, sr⟩ := hs
  have l0 := hn.2
  have nf : n ≠ f := fun e => by rw [e, he] at l0; omega
  have gn : g ≠ n := fun e => by rw [e] at ge; omega
  have ga := hg.1
  have gb := hg.2
  rw [show min 5 cut = cut by omega] at j3n j3f jn jf
  generalize hu : jx_su τ' 9 0 (τ' 9 0 + 1) = υ at hA
  have un : ∀ q i, q ≠ 9 → υ q i = τ' q i := fun q i h => by rw [← hu]; exact jx_su_ne h
  have uth : ∀ m k, th υ m k = th τ' m k := fun m k => un 6 _ (by decide)
  have ug2 : υ 2 g = -1 := by rw [un 2 _ (by decide), j2, if_neg gf, ge]
  have ug3 : υ 3 g = 0 := by rw [un 3 _ (by decide), j3 g gn gf, g3]
  have hS : ∀ m, lvn υ m → 0 ≤ υ 3 m ∧ υ 3 m ≤ 5 := fun m hm => by
    have hm' : lvn τ' m := by unfold lvn at hm ⊢; rw [un 2 _ (by decide)] at hm; exact hm
    rw [un 3 _ (by decide)]
    exact ⟨(jW.sh.1 m hm').1, (jW.sh.1 m hm').2.1⟩
  have hWu : Ws υ _ _ := ws_congr jW (by funext i; exact un _ i (by decide)) (by funext i; exact un _ i (by decide)) (by funext i; exact un _ i (by decide)) (by funext i; exact un _ i (by decide)) (by funext i; exact un _ i (by decide)) (by funext i; exact un _ i (by decide)) (by funext i; exact un _ i (by decide))
  have fg : frs υ g := ⟨hg, ug2, fun j j0 j1 e => by
    rw [un 2 _ (by decide), j2] at e
    by_cases z : j = f
    · rw [if_pos z] at e; omega
    · rw [if_neg z] at e; exact gl j j0 j1 z e⟩
  have hA2 := ag_new (l := σ 2 n + 1) hA hS hg ug2 ug3
  generalize hw : jx_su υ 2 g (σ 2 n + 1) = ω at hA2
  have w2 : ∀ m, ω 2 m = if m = g then σ 2 n + 1 else υ 2 m := fun m => by rw [← hw]; exact jx_su_same
  have wn : ∀ q i, q ≠ 2 → ω q i = υ q i := fun q i h => by rw [← hw]; exact jx_su_ne h
  have wg3 : ω 3 g = 0 := by rw [wn 3 _ (by decide), ug3]
  have hS2 : ∀ m, lvn ω m → 0 ≤ ω 3 m ∧ ω 3 m ≤ 5 := fun m hm => by
    by_cases z : m = g
    · rw [z, wg3]; exact ⟨by decide, by decide⟩
    · rw [wn 3 _ (by decide)]
      refine hS m ⟨hm.1, ?_⟩
      have := hm.2
      rw [w2, if_neg z] at this
      exact this
  have lg : lvn ω g := ⟨hg, by rw [w2, if_pos rfl]; omega⟩
  obtain ⟨b, ⟨b1, b2, b3⟩, bg⟩ := g_puts (x := n) (p := 0) hA2 hS2 lg (by rw [wg3]; decide) (by rw [wg3]; decide)
  have a3 : ∀ m, adF ω g 0 n 3 m = if m = g then 1 else ω 3 m := fun m => by
    have : adF ω g 0 n 3 m = if m = g then ω 3 g + 1 else ω 3 m := by simp [adF]
    rw [this, wg3]; rfl
  have ag3 : adF ω g 0 n 3 g = 1 := by rw [a3, if_pos rfl]
  have lg2 : lvn (adF ω g 0 n) g := ⟨hg, by rw [adF_2]; exact lg.2⟩
  obtain ⟨d, ⟨d1, d2, d3⟩, dg⟩ := g_puts (x := f) (p := 1) b2 (fun m hm => by
    rw [a3]
    split
    · exact ⟨by decide, by decide⟩
    · next z => exact hS2 m (by unfold lvn at hm ⊢; rw [adF_2] at hm; exact hm)) lg2 (by rw [ag3]; decide) (by rw [ag3]; decide)
  have dd3 : ∀ m, adF (adF ω g 0 n) g 1 f 3 m = if m = g then 2 else ω 3 m := fun m => by
    have : adF (adF ω g 0 n) g 1 f 3 m = if m = g then adF ω g 0 n 3 g + 1 else adF ω g 0 n 3 m := by simp [adF]
    rw [this, ag3, a3]
    by_cases z : m = g
    · rw [if_pos z, if_pos z]; rfl
    · rw [if_neg z, if_neg z, if_neg z]
  refine ⟨jx_su d 0 0 g, ⟨fun z hz => ?_, ?_, ?_⟩, fun Q hQ => m_newNode hWu hA fg (bg _ (dg _ hQ))⟩
  · funext j
    rw [jx_su_ne hz, d1 z hz, b1 z hz, jx_su_ne hz, jx_su_ne hz]
  · have hA5 : Ag (jx_su (adF (adF ω g 0 n) g 1 f) 7 0 g) (jx_su d 0 0 g) := by
      obtain ⟨c0, c1, c2, c3, c4, c5, c6, c7⟩ := d2
      have fin : ∀ j, jx_su d 0 0 g 0 j = if j = 0 then g else d 0 j := fun j => jx_su_same
      have en : ∀ q i, q ≠ 7 → jx_su (adF (adF ω g 0 n) g 1 f) 7 0 g q i = adF (adF ω g 0 n) g 1 f q i := fun q i h => jx_su_ne h
      have lv' : ∀ m, lvn (jx_su (adF (adF ω g 0 n) g 1 f) 7 0 g) m ↔ lvn (adF (adF ω g 0 n) g 1 f) m := fun m => by unfold lvn; rw [en 2 _ (by decide)]
      refine ⟨?_, fun m m0 m1 => ?_, fun m hm => ?_, fun m k hm k0 k1 => ?_, fun c hc => ?_, fun c k hc hne k0 k1 => ?_, ?_, ?_⟩
      · rw [fin, if_pos rfl, jx_su_eq]
      · rw [fin, if_neg (by omega), c1 m m0 m1, en 2 _ (by decide)]
      · have := hm.1.1
        rw [fin, if_neg (by omega), c2 m ((lv' m).mp hm), en 3 _ (by decide)]
      · have := hm.1.1
        rw [en 3 _ (by decide)] at k1
        rw [fin, if_neg (by omega), c3 m k ((lv' m).mp hm) k0 k1]
        exact (en 6 _ (by decide)).symm
      · have := hc.1
        rw [fin, if_neg (by omega), c4 c hc, en 0 _ (by decide)]
      · have := hc.1
        rw [en 0 _ (by decide)] at hne ⊢
        rw [fin, if_neg (by omega), c5 c k hc hne k0 k1]
      · rw [fin, if_neg (by omega), c6, en 8 _ (by decide)]
      · rw [fin, if_neg (by omega), c7, en 9 _ (by decide)]
    have en : ∀ q i, q ≠ 1 → q ≠ 2 → q ≠ 3 → q ≠ 5 → q ≠ 6 → q ≠ 7 → q ≠ 9 → jx_su (adF (adF ω g 0 n) g 1 f) 7 0 g q i = τ' q i := fun q i h1 h2 h3 h5 h6 h7 h9 => by
      rw [jx_su_ne h7, adF_n h1 h3 h5 h6, adF_n h1 h3 h5 h6, wn q i h2, un q i h9]
    have tne : ∀ m k, m ≠ g → 0 ≤ k → k < 5 → th (jx_su (adF (adF ω g 0 n) g 1 f) 7 0 g) m k = th τ' m k := fun m k hm k0 k5 => by
      have e1 : th (jx_su (adF (adF ω g 0 n) g 1 f) 7 0 g) m k = th (adF (adF ω g 0 n) g 1 f) m k := jx_su_ne (by decide)
      rw [e1, th_ad_ne hm k0 k5 (by rw [ag3]; decide) (by rw [ag3]; decide), th_ad_ne hm k0 k5 (by rw [wg3]; decide) (by rw [wg3]; decide)]
      have e2 : th ω m k = th υ m k := wn 6 _ (by decide)
      rw [e2, uth]
    have e3 : ∀ m, τ 3 m = jx_su (adF (adF ω g 0 n) g 1 f) 7 0 g 3 m := fun m => by
      rw [jx_su_ne (by decide), dd3, s3]
      by_cases z : m = n
      · rw [if_pos z, if_neg (by rw [z]; exact fun e => gn e.symm), z, wn 3 _ (by decide), un 3 _ (by decide), j3n]
      · rw [if_neg z]
        by_cases y : m = f
        · rw [if_pos y, if_neg (by rw [y]; exact fun e => gf e.symm), y, wn 3 _ (by decide), un 3 _ (by decide), j3f]
        · rw [if_neg y]
          by_cases x : m = g
          · rw [if_pos x, if_pos x]
          · rw [if_neg x, if_neg x, wn 3 _ (by decide), un 3 _ (by decide), j3 m z y]
    refine hA5.obs ?_ (fun m => ?_) (fun m _ => e3 m) (fun m k hm k0 k1 => ?_) (fun c _ => ?_) ?_ ?_
    · rw [s7, jx_su_eq]
    · rw [s2, jx_su_ne (by decide), adF_2, adF_2, w2, un 2 _ (by decide), j2]
    · have h5 : k < 5 := by have := (sW.sh.1 m hm).2.1; omega
      rw [s3] at k1
      by_cases z : m = n
      · rw [if_pos z] at k1
        subst z
        rw [tne m k (fun e => gn e.symm) k0 h5, sn k k0 k1, jn k k0 k1]
      · rw [if_neg z] at k1
        by_cases y : m = f
        · rw [if_pos y] at k1
          subst y
          rw [tne m k (fun e => gf e.symm) k0 h5, sf k k0 k1, jf k k0 k1]
        · rw [if_neg y] at k1
          by_cases x : m = g
          · rw [if_pos x] at k1
            subst x
            have e1 : th (jx_su (adF (adF ω m 0 n) m 1 f) 7 0 m) m k = th (adF (adF ω m 0 n) m 1 f) m k := jx_su_ne (by decide)
            rw [e1, th_ad (by rw [ag3]; omega)]
            by_cases w : k = 0
            · rw [w, if_neg (by decide), if_neg (by decide), th_ad (by rw [wg3]; decide), if_pos rfl]
              exact sg0
            · have w1 : k = 1 := by omega
              rw [w1, if_pos rfl]
              exact sg1
          · rw [tne m k x k0 h5, st m k z y x k0 h5, jt m k z y k0 h5]
    · rw [sr 0 _ (by decide) (by decide) (by decide) (by decide) (by decide) (by decide) (by decide) (by decide), en 0 _ (by decide) (by decide) (by decide) (by decide) (by decide) (by decide) (by decide)]
      exact (jr 0 _ (by decide) (by decide) (by decide) (by decide) (by decide) (by decide)).symm
    · rw [sr 8 _ (by decide) (by decide) (by decide) (by decide) (by decide) (by decide) (by decide) (by decide), en 8 _ (by decide) (by decide) (by decide) (by decide) (by decide) (by decide) (by decide)]
      exact (jr 8 _ (by decide) (by decide) (by decide) (by decide) (by decide) (by decide)).symm
    · rw [s9, if_pos rfl, jx_su_ne (by decide), adF_n (by decide) (by decide) (by decide) (by decide), adF_n (by decide) (by decide) (by decide) (by decide), wn 9 _ (by decide), ← hu, jx_su_eq, jr 9 0 (by decide) (by decide) (by decide) (by decide) (by decide) (by decide)]
  · rw [jx_su_same, if_neg (by decide), d3, b3, jx_su_same, if_neg (by omega), jx_su_same, if_neg (by omega)]
