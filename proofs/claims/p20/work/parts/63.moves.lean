/-! ===== the pure part: the reference moves things ===== -/
theorem m_farOf {Q : Int → Prop} {σ μ : jx_St} {P : List (Int × Int)} {E : List Int} {n k : Int} (hW : Ws σ P E) (hA : Ag σ μ) (hn : lvn σ n) (k0 : 0 ≤ k) (k1 : k < σ 3 n) (hs : sdk σ μ (th σ n k) (σ 2 n)) (hL : ∀ i, 0 ≤ i → i < 4 → μ 7 (4 * n + i) = bs (σ 4 n) i) (h : Q (apF (hv σ (th σ n k) (σ 2 n)) (σ 4 n))) : wp_M_farOf Q μ n k := by
  have n0 := hn.1.1
  have n1 := hn.1.2
  have s3 := hW.sh.1 n hn
  have hd : ∀ j, (j : Int) = j := fun _ => rfl
  refine jx_loop (fun v => 0 ≤ v.2.2 ∧ v.2.2 ≤ 4 ∧ v.1 = (if 1 ≤ v.2.2 then bs (hv σ (th σ n k) (σ 2 n)) 0 - bs (σ 4 n) 0 else 0) + (if 3 ≤ v.2.2 then bs (hv σ (th σ n k) (σ 2 n)) 2 - bs (σ 4 n) 2 else 0) ∧ v.2.1 = (if 2 ≤ v.2.2 then bs (hv σ (th σ n k) (σ 2 n)) 1 - bs (σ 4 n) 1 else 0) + (if 4 ≤ v.2.2 then bs (hv σ (th σ n k) (σ 2 n)) 3 - bs (σ 4 n) 3 else 0)) (fun v => (4 - v.2.2).toNat) (fun B v hI hB => ?_) ⟨Int.le_refl _, by show (0 : Int) ≤ 4; decide, by dsimp only; rw [if_neg (by decide), if_neg (by decide)]; rfl, by dsimp only; rw [if_neg (by decide), if_neg (by decide)]; rfl⟩
  obtain ⟨x, y, i⟩ := v
  obtain ⟨a1, a2, a3, a4⟩ := hI
  dsimp only at a1 a2 a3 a4 ⊢
  refine ⟨jx_inR (by omega) (by omega), fun q => m_thing hA hn s3.2.1 k0 k1 (m_level hA hn.1 (m_side hA hs (hW.R2 hn) a1 q ⟨⟨by omega, by show 4 * n + i < 160; omega⟩, rr_rem _ _, ?_⟩)), fun q => ?_⟩
  · rw [hL i a1 q]
    have c : i = 0 ∨ i = 1 ∨ i = 2 ∨ i = 3 := by omega
    rcases c with c | c | c | c
    · rw [c] at a3 a4 ⊢
      rw [if_neg (by decide), if_neg (by decide)] at a3 a4
      have e : jx_rem 0 2 = 0 := by decide
      rw [e]
      refine ⟨fun _ => ⟨by rw [e]; exact jx_inR (by decide) (by decide), fun z => absurd (e.symm.trans z) (by decide), fun _ => hB _ ⟨by dsimp only; omega, by dsimp only; omega, ?_, ?_⟩ (by dsimp only; omega)⟩, fun z => absurd rfl z⟩
      · dsimp only; rw [if_pos (by decide), if_neg (by decide), a3]; omega
      · dsimp only; rw [if_neg (by decide), if_neg (by decide), a4]; rfl
    · rw [c] at a3 a4 ⊢
      rw [if_pos (by decide), if_neg (by decide)] at a3
      rw [if_neg (by decide), if_neg (by decide)] at a4
      have e : jx_rem 1 2 = 1 := by decide
      rw [e]
      refine ⟨fun z => absurd z (by decide), fun _ => ⟨by rw [e]; exact jx_inR (by decide) (by decide), fun _ => hB _ ⟨by dsimp only; omega, by dsimp only; omega, ?_, ?_⟩ (by dsimp only; omega), fun z => absurd e z⟩⟩
      · dsimp only; rw [if_pos (by decide), if_neg (by decide), a3]; omega
      · dsimp only; rw [if_pos (by decide), if_neg (by decide), a4]; omega
    · rw [c] at a3 a4 ⊢
      rw [if_pos (by decide), if_neg (by decide)] at a3 a4
      have e : jx_rem 2 2 = 0 := by decide
      rw [e]
      refine ⟨fun _ => ⟨by rw [e]; exact jx_inR (by decide) (by decide), fun z => absurd (e.symm.trans z) (by decide), fun _ => hB _ ⟨by dsimp only; omega, by dsimp only; omega, ?_, ?_⟩ (by dsimp only; omega)⟩, fun z => absurd rfl z⟩
      · dsimp only; rw [if_pos (by decide), if_pos (by decide), a3]; omega
      · dsimp only; rw [if_pos (by decide), if_neg (by decide), a4]; omega
    · rw [c] at a3 a4 ⊢
      rw [if_pos (by decide), if_pos (by decide)] at a3
      rw [if_pos (by decide), if_neg (by decide)] at a4
      have e : jx_rem 3 2 = 1 := by decide
      rw [e]
      refine ⟨fun z => absurd z (by decide), fun _ => ⟨by rw [e]; exact jx_inR (by decide) (by decide), fun _ => hB _ ⟨by dsimp only; omega, by dsimp only; omega, ?_, ?_⟩ (by dsimp only; omega), fun z => absurd e z⟩⟩
      · dsimp only; rw [if_pos (by decide), if_pos (by decide), a3]; omega
      · dsimp only; rw [if_pos (by decide), if_pos (by decide), a4]; omega
  · rw [if_pos (by omega), if_pos (by omega)] at a3 a4
    show Q (x * x + y * y)
    have ex : x = bs (hv σ (th σ n k) (σ 2 n)) 0 + bs (hv σ (th σ n k) (σ 2 n)) 2 - bs (σ 4 n) 0 - bs (σ 4 n) 2 := by omega
    have ey : y = bs (hv σ (th σ n k) (σ 2 n)) 1 + bs (hv σ (th σ n k) (σ 2 n)) 3 - bs (σ 4 n) 1 - bs (σ 4 n) 3 := by omega
    rw [ex, ey]
    exact h
theorem m_farthest {Q : Int → Prop} {σ μ : jx_St} {P : List (Int × Int)} {E : List Int} {n but : Int} (hW : Ws σ P E) (hA : Ag σ μ) (hn : lvn σ n) (hb : jx_R but) (hs : ∀ k, 0 ≤ k → k < σ 3 n → sdk σ μ (th σ n k) (σ 2 n)) (hL : 1 ≤ σ 3 n → ∀ i, 0 ≤ i → i < 4 → μ 7 (4 * n + i) = bs (σ 4 n) i) (h : Q (frF σ n but (σ 3 n).toNat).1) : wp_M_farthest Q μ n but := by
  have s3 := hW.sh.1 n hn
  refine jx_loop (fun v => 0 ≤ v.2 ∧ v.2 ≤ σ 3 n ∧ v.1 = (frF σ n but v.2.toNat).1) (fun v => (σ 3 n - v.2).toNat) (fun B v hI hB => ?_) ⟨Int.le_refl _, s3.1, rfl⟩
  obtain ⟨bt, k⟩ := v
  obtain ⟨a1, a2, a3⟩ := hI
  dsimp only at a1 a2 a3 ⊢
  have ek : ((k.toNat : Nat) : Int) = k := Int.toNat_of_nonneg a1
  have bd := frF_bd (σ := σ) (n := n) (but := but) k.toNat
  rw [← a3] at bd
  obtain ⟨d1, d2, d3, d4, d5, d6, _⟩ := bd
  refine m_manyOf hA hn ⟨jx_inR (by omega) (by omega), jx_inR (by omega) (by omega), fun q => ?_, fun q => ?_⟩
  · have b := apF_bd (hv σ (th σ n k) (σ 2 n)) (σ 4 n)
    have no : ¬ (k ≠ but ∧ (frF σ n but k.toNat).2 ≤ apF (hv σ (th σ n k) (σ 2 n)) (σ 4 n)) → wp_M_farthest_45 Q μ n but B bt k := by
      intro c
      refine hB _ ⟨by show 0 ≤ k + 1; omega, by show k + 1 ≤ _; omega, ?_⟩ (by show (σ 3 n - (k + 1)).toNat < (σ 3 n - k).toNat; omega)
      dsimp only
      rw [show (k + 1).toNat = k.toNat + 1 by omega]
      simp only [frF, ek]
      rw [if_neg c]
      exact a3
    have yes : (k ≠ but ∧ (frF σ n but k.toNat).2 ≤ apF (hv σ (th σ n k) (σ 2 n)) (σ 4 n)) → wp_M_farthest_42 Q μ n but B k := by
      intro c
      refine hB _ ⟨by show 0 ≤ k + 1; omega, by show k + 1 ≤ _; omega, ?_⟩ (by show (σ 3 n - (k + 1)).toNat < (σ 3 n - k).toNat; omega)
      dsimp only
      rw [show (k + 1).toNat = k.toNat + 1 by omega]
      simp only [frF, ek]
      rw [if_pos c]
    refine ⟨jx_inR (by omega) (by omega), hb, fun c => no (fun z => z.1 c), fun c => ⟨jx_inR (by omega) (by omega), fun c2 => yes ⟨c, by rw [d5 c2]; exact b.1⟩, fun c2 => ?_⟩⟩
    obtain ⟨e1, e2⟩ := d6 (by omega)
    have bb := apF_bd (hv σ (th σ n bt) (σ 2 n)) (σ 4 n)
    refine m_farOf hW hA hn a1 q (hs k a1 q) (hL (by omega)) (m_farOf hW hA hn (by omega) (by omega) (hs bt (by omega) (by omega)) (hL (by omega)) ⟨jx_inR (by omega) (by omega), jx_inR (by omega) (by omega), fun c3 => no (fun z => by rw [e2] at z; omega), fun c3 => yes ⟨c, by rw [e2]; omega⟩⟩)
  · have e : k = σ 3 n := by omega
    rw [a3, e]
    exact h
theorem adF_2 {σ : jx_St} {n p x i : Int} : adF σ n p x 2 i = σ 2 i := adF_n (by decide) (by decide) (by decide) (by decide)
theorem rmF_2 {σ : jx_St} {n p i : Int} : rmF σ n p 2 i = σ 2 i := rmF_n (by decide) (by decide) (by decide) (by decide)
/-- a thing comes into a row of the reference -/
theorem g_puts {σ μ : jx_St} {n p x : Int} (hA : Ag σ μ) (hS : ∀ m, lvn σ m → 0 ≤ σ 3 m ∧ σ 3 m ≤ 5) (hn : lvn σ n) (h4 : σ 3 n ≤ 4) (hp : 0 ≤ p ∧ p ≤ σ 3 n) : ∃ b : jx_St, ((∀ z, z ≠ 0 → b z = μ z) ∧ Ag (adF σ n p x) b ∧ b 0 3 = μ 0 3) ∧ ∀ (Q : jx_St → Prop), Q b → wp_M_puts Q μ n p x := by
  have n0 := hn.1.1
  have n1 := hn.1.2
  have s3 := hS n hn
  have loop : ∃ b : jx_St, ((∀ z, z ≠ 0 → b z = μ z) ∧ ∀ j, b 0 j = if 239 + 5 * n + p < j ∧ j ≤ 239 + 5 * n + σ 3 n then μ 0 (j - 1) else μ 0 j) ∧ ∀ (g : jx_St → Prop) (K : jx_St → Prop), K b → jx_lp (fun B v => wp_M_puts_7 g n p x K B v.1 v.2) (μ, σ 3 n) := by
    refine go_loop (γ := jx_St → Prop) (F := fun g K B (v : jx_St × Int) => wp_M_puts_7 g n p x K B v.1 v.2) (fun v => p ≤ v.2 ∧ v.2 ≤ σ 3 n ∧ (∀ z, z ≠ 0 → v.1 z = μ z) ∧ ∀ j, v.1 0 j = if 239 + 5 * n + v.2 < j ∧ j ≤ 239 + 5 * n + σ 3 n then μ 0 (j - 1) else μ 0 j) (fun v => (v.2 - p).toNat) _ (fun v hI => ?_) ⟨hp.2, Int.le_refl _, fun _ _ => rfl, fun j => by dsimp only; rw [if_neg (by omega)]⟩
    obtain ⟨μ1, i⟩ := v
    obtain ⟨a1, a2, a3, a4⟩ := hI
    dsimp only at a1 a2 a3 a4 ⊢
    by_cases q : i ≤ p
    · left
      have e : i = p := by omega
      subst e
      exact ⟨μ1, ⟨a3, a4⟩, fun g K B hK => ⟨jx_inR (by omega) (by omega), jx_inR (by omega) (by omega), fun _ => hK, fun z => absurd q z⟩⟩
    · right
      refine ⟨(jx_su μ1 0 (239 + 5 * n + i) (μ1 0 (239 + 5 * n + (i - 1))), i + -1), ⟨by dsimp only; omega, by dsimp only; omega, fun z hz => by funext j; dsimp only; rw [jx_su_ne hz, a3 z hz], fun j => ?_⟩, by dsimp only; omega, fun g K B hB => ⟨jx_inR (by omega) (by omega), jx_inR (by omega) (by omega), fun z => absurd z q, fun _ => ⟨⟨by omega, by show 239 + 5 * n + (i - 1) < 439; omega⟩, ⟨by omega, by show 239 + 5 * n + i < 439; omega⟩, hB⟩⟩⟩
      dsimp only
      rw [jx_su_same, a4, a4]
      by_cases z : j = 239 + 5 * n + i
      · rw [if_pos z, if_neg (by omega), if_pos (by omega), z]
        congr 1; omega
      · rw [if_neg z]
        by_cases y : 239 + 5 * n + i < j ∧ j ≤ 239 + 5 * n + σ 3 n
        · rw [if_pos y, if_pos (by omega)]
        · rw [if_neg y, if_neg (by omega)]
  obtain ⟨b, ⟨b1, b2⟩, g⟩ := loop
  have many : μ 0 (199 + n) = σ 3 n := hA.2.2.1 n hn
  have fin : ∀ j, jx_su (jx_su b 0 (239 + 5 * n + p) x) 0 (199 + n) (jx_su b 0 (239 + 5 * n + p) x 0 (199 + n) + 1) 0 j = if j = 199 + n then σ 3 n + 1 else if j = 239 + 5 * n + p then x else if 239 + 5 * n + p < j ∧ j ≤ 239 + 5 * n + σ 3 n then μ 0 (j - 1) else μ 0 j := fun j => by
    rw [jx_su_same]
    by_cases z : j = 199 + n
    · rw [if_pos z, if_pos z, jx_su_same, if_neg (by omega), b2, if_neg (by omega), many]
    · rw [if_neg z, if_neg z, jx_su_same]
      by_cases y : j = 239 + 5 * n + p
      · rw [if_pos y, if_pos y]
      · rw [if_neg y, if_neg y, b2]
  refine ⟨_, ⟨fun z hz => ?_, ?_, ?_⟩, fun Q hQ => m_manyOf hA hn (g Q _ ⟨⟨by omega, by show 239 + 5 * n + p < 439; omega⟩, ⟨by omega, by show 199 + n < 439; omega⟩, ⟨by omega, by show 199 + n < 439; omega⟩, hQ⟩)⟩
  · funext j; rw [jx_su_ne hz, jx_su_ne hz, b1 z hz]
  · obtain ⟨c0, c1, c2, c3, c4, c5, c6, c7⟩ := hA
    refine ⟨?_, fun m m0 m1 => ?_, fun m hm => ?_, fun m k hm k0 k1 => ?_, fun c hc => ?_, fun c k hc hne k0 k1 => ?_, ?_, ?_⟩
    · rw [fin, if_neg (by omega), if_neg (by omega), if_neg (by omega), c0, adF_n (by decide) (by decide) (by decide) (by decide)]
    · rw [fin, if_neg (by omega), if_neg (by omega), if_neg (by omega), c1 m m0 m1, adF_2]
    · have hm' : lvn σ m := by unfold lvn at hm ⊢; rw [adF_2] at hm; exact hm
      have := hm'.1.2
      have e3 : adF σ n p x 3 m = if m = n then σ 3 n + 1 else σ 3 m := by simp [adF]
      rw [fin, e3]
      by_cases z : m = n
      · rw [if_pos (by omega), if_pos z]
      · rw [if_neg (by omega), if_neg (by omega), if_neg (by omega), if_neg z, c2 m hm']
    · have hm' : lvn σ m := by unfold lvn at hm ⊢; rw [adF_2] at hm; exact hm
      have := hm'.1.2
      have m0 := hm'.1.1
      have e3 : adF σ n p x 3 m = if m = n then σ 3 n + 1 else σ 3 m := by simp [adF]
      rw [e3] at k1
      rw [fin, if_neg (by omega)]
      by_cases z : m = n
      · rw [if_pos z] at k1
        subst z
        rw [th_ad (by omega)]
        by_cases y : k = p
        · rw [if_pos (by omega), if_pos y]
        · rw [if_neg (by omega), if_neg y]
          by_cases w : p < k
          · rw [if_pos (by omega), if_pos w, ← c3 m (k - 1) hm' (by omega) (by omega)]
            congr 1; omega
          · rw [if_neg (by omega), if_neg w]
            exact c3 m k hm' k0 (by omega)
      · rw [if_neg z] at k1
        have := hS m hm'
        rw [if_neg (by omega), if_neg (by omega), th_ad_ne z k0 (by omega) h4 hp]
        exact c3 m k hm' k0 k1
    · have := hc.1
      have := hc.2
      rw [fin, if_neg (by omega), if_neg (by omega), if_neg (by omega), c4 c hc, adF_n (by decide) (by decide) (by decide) (by decide)]
    · have := hc.1
      have := hc.2
      rw [adF_n (by decide) (by decide) (by decide) (by decide)] at hne ⊢
      rw [fin, if_neg (by omega), if_neg (by omega), if_neg (by omega), c5 c k hc hne k0 k1]
    · rw [fin, if_neg (by omega), if_neg (by omega), if_neg (by omega), c6, adF_n (by decide) (by decide) (by decide) (by decide)]
    · rw [fin, if_neg (by omega), if_neg (by omega), if_neg (by omega), c7, adF_n (by decide) (by decide) (by decide) (by decide)]
  · rw [fin, if_neg (by omega), if_neg (by omega), if_neg (by omega)]
