/-! ===== the pure part: the reference drops, makes and sorts ===== -/
/-- a thing leaves a row of the reference -/
theorem g_drops {σ μ : jx_St} {n p : Int} (hA : Ag σ μ) (hS : ∀ m, lvn σ m → 0 ≤ σ 3 m ∧ σ 3 m ≤ 5) (hn : lvn σ n) (hp : 0 ≤ p ∧ p < σ 3 n) : ∃ b : jx_St, ((∀ z, z ≠ 0 → b z = μ z) ∧ Ag (rmF σ n p) b ∧ b 0 3 = μ 0 3) ∧ ∀ (Q : jx_St → Prop), Q b → wp_M_drops Q μ n p := by
  have n0 := hn.1.1
  have n1 := hn.1.2
  have s3 := hS n hn
  have many : μ 0 (199 + n) = σ 3 n := hA.2.2.1 n hn
  have loop : ∃ b : jx_St, ((∀ z, z ≠ 0 → b z = μ z) ∧ ∀ j, b 0 j = if j = 199 + n then σ 3 n - 1 else if 239 + 5 * n + p ≤ j ∧ j < 239 + 5 * n + σ 3 n - 1 then μ 0 (j + 1) else μ 0 j) ∧ ∀ (g : Unit) (K : jx_St → Prop), K b → jx_lp (fun B v => wp_M_drops_16 K n p B v.1 v.2) (jx_su μ 0 (199 + n) (μ 0 (199 + n) - 1), p) := by
    refine go_loop (γ := Unit) (F := fun _ K B (v : jx_St × Int) => wp_M_drops_16 K n p B v.1 v.2) (fun v => p ≤ v.2 ∧ v.2 ≤ σ 3 n - 1 ∧ (∀ z, z ≠ 0 → v.1 z = μ z) ∧ ∀ j, v.1 0 j = if j = 199 + n then σ 3 n - 1 else if 239 + 5 * n + p ≤ j ∧ j < 239 + 5 * n + v.2 then μ 0 (j + 1) else μ 0 j) (fun v => (σ 3 n - v.2).toNat) _ (fun v hI => ?_) ⟨Int.le_refl _, by show p ≤ σ 3 n - 1; omega, fun z hz => by funext j; exact jx_su_ne hz, fun j => by
      dsimp only
      rw [jx_su_same, many]
      by_cases z : j = 199 + n
      · rw [if_pos z, if_pos z]
      · rw [if_neg z, if_neg z, if_neg (by omega)]⟩
    obtain ⟨μ1, i⟩ := v
    obtain ⟨a1, a2, a3, a4⟩ := hI
    dsimp only at a1 a2 a3 a4 ⊢
    have em : μ1 0 (199 + n) = σ 3 n - 1 := by rw [a4, if_pos rfl]
    have lead : ∀ (Q : Int → Prop), Q (σ 3 n - 1) → wp_M_manyOf Q μ1 n := fun Q hQ => ⟨⟨by omega, by show 199 + n < 439; omega⟩, by rw [em]; exact hQ⟩
    by_cases q : i < σ 3 n - 1
    · right
      refine ⟨(jx_su μ1 0 (239 + 5 * n + i) (μ1 0 (239 + 5 * n + (i + 1))), i + 1), ⟨by dsimp only; omega, by dsimp only; omega, fun z hz => by funext j; dsimp only; rw [jx_su_ne hz, a3 z hz], fun j => ?_⟩, by dsimp only; omega, fun g K B hB => lead _ ⟨jx_inR (by omega) (by omega), jx_inR (by omega) (by omega), fun _ => ⟨⟨by omega, by show 239 + 5 * n + (i + 1) < 439; omega⟩, ⟨by omega, by show 239 + 5 * n + i < 439; omega⟩, hB⟩, fun z => absurd q z⟩⟩
      dsimp only
      rw [jx_su_same, a4, a4]
      by_cases z : j = 239 + 5 * n + i
      · rw [if_pos z, if_neg (by omega), if_neg (by omega), if_neg (by omega), if_pos (by omega), z]
        congr 1; omega
      · rw [if_neg z]
        by_cases w : j = 199 + n
        · rw [if_pos w, if_pos w]
        · rw [if_neg w, if_neg w]
          by_cases y : 239 + 5 * n + p ≤ j ∧ j < 239 + 5 * n + i
          · rw [if_pos y, if_pos (by omega)]
          · rw [if_neg y, if_neg (by omega)]
    · left
      have e : i = σ 3 n - 1 := by omega
      subst e
      exact ⟨μ1, ⟨a3, fun j => by rw [a4, show 239 + 5 * n + (σ 3 n - 1) = 239 + 5 * n + σ 3 n - 1 by omega]⟩, fun g K B hK => lead _ ⟨jx_inR (by omega) (by omega), jx_inR (by omega) (by omega), fun z => absurd z q, fun _ => hK⟩⟩
  obtain ⟨b, ⟨b1, fin⟩, g⟩ := loop
  refine ⟨b, ⟨b1, ?_, ?_⟩, fun Q hQ => ⟨⟨by omega, by show 199 + n < 439; omega⟩, ⟨by omega, by show 199 + n < 439; omega⟩, g () Q hQ⟩⟩
  · obtain ⟨c0, c1, c2, c3, c4, c5, c6, c7⟩ := hA
    refine ⟨?_, fun m m0 m1 => ?_, fun m hm => ?_, fun m k hm k0 k1 => ?_, fun c hc => ?_, fun c k hc hne k0 k1 => ?_, ?_, ?_⟩
    · rw [fin, if_neg (by omega), if_neg (by omega), c0, rmF_n (by decide) (by decide) (by decide) (by decide)]
    · rw [fin, if_neg (by omega), if_neg (by omega), c1 m m0 m1, rmF_2]
    · have hm' : lvn σ m := by unfold lvn at hm ⊢; rw [rmF_2] at hm; exact hm
      have := hm'.1.2
      have e3 : rmF σ n p 3 m = if m = n then σ 3 n - 1 else σ 3 m := by simp [rmF]
      rw [fin, e3]
      by_cases z : m = n
      · rw [if_pos (by omega), if_pos z]
      · rw [if_neg (by omega), if_neg (by omega), if_neg z, c2 m hm']
    · have hm' : lvn σ m := by unfold lvn at hm ⊢; rw [rmF_2] at hm; exact hm
      have := hm'.1.2
      have m0 := hm'.1.1
      have e3 : rmF σ n p 3 m = if m = n then σ 3 n - 1 else σ 3 m := by simp [rmF]
      rw [e3] at k1
      rw [fin, if_neg (by omega)]
      by_cases z : m = n
      · rw [if_pos z] at k1
        subst z
        rw [th_rm (by omega)]
        by_cases y : p ≤ k
        · rw [if_pos (by omega), if_pos y, ← c3 m (k + 1) hm' (by omega) (by omega)]
          congr 1; omega
        · rw [if_neg (by omega), if_neg y]
          exact c3 m k hm' k0 (by omega)
      · rw [if_neg z] at k1
        have := hS m hm'
        rw [if_neg (by omega), th_rm_ne z k0 (by omega) s3.2 hp]
        exact c3 m k hm' k0 k1
    · have := hc.1
      have := hc.2
      rw [fin, if_neg (by omega), if_neg (by omega), c4 c hc, rmF_n (by decide) (by decide) (by decide) (by decide)]
    · have := hc.1
      have := hc.2
      rw [rmF_n (by decide) (by decide) (by decide) (by decide)] at hne ⊢
      rw [fin, if_neg (by omega), if_neg (by omega), c5 c k hc hne k0 k1]
    · rw [fin, if_neg (by omega), if_neg (by omega), c6, rmF_n (by decide) (by decide) (by decide) (by decide)]
    · rw [fin, if_neg (by omega), if_neg (by omega), c7, rmF_n (by decide) (by decide) (by decide) (by decide)]
  · rw [fin, if_neg (by omega), if_neg (by omega)]
theorem m_newNode {Q : Int → jx_St → Prop} {σ μ : jx_St} {P : List (Int × Int)} {E : List Int} {f l : Int} (hW : Ws σ P E) (hA : Ag σ μ) (hf : frs σ f) (h : Q f (jx_su (jx_su μ 0 (159 + f) l) 0 (199 + f) 0)) : wp_M_newNode Q μ l := by
  obtain ⟨f0, f1, f2⟩ := hf
  have fa := f0.1
  have fb := f0.2
  refine jx_loop (fun v => 0 ≤ v ∧ v ≤ f) (fun v => (f - v).toNat) (fun B v hI hB => ?_) ⟨Int.le_refl _, fa⟩
  obtain ⟨a1, a2⟩ := hI
  have hR : jx_R (σ 2 v) := by
    rcases hW.2.1 v ⟨a1, by omega⟩ with y | y
    · rw [y]; exact jx_inR (by decide) (by decide)
    · have := hW.1.2.1; exact jx_inR (by omega) (by omega)
  refine m_level hA ⟨a1, by omega⟩ ⟨hR, fun e => ?_, fun e => ?_⟩
  · have ev : v = f := by
      rcases Int.lt_or_eq_of_le a2 with z | z
      · exact absurd e (f2 v a1 z)
      · exact z
    rw [ev]
    exact ⟨⟨by omega, by show 159 + f < 439; omega⟩, ⟨by omega, by show 199 + f < 439; omega⟩, h⟩
  · have : v ≠ f := fun z => e (by rw [z]; exact f1)
    exact hB (v + 1) ⟨by omega, by omega⟩ (by omega)
theorem ag_new {σ μ : jx_St} {f l : Int} (hA : Ag σ μ) (hS : ∀ m, lvn σ m → 0 ≤ σ 3 m ∧ σ 3 m ≤ 5) (hf : nd f) (he : σ 2 f = -1) (h3 : σ 3 f = 0) : Ag (jx_su σ 2 f l) (jx_su (jx_su μ 0 (159 + f) l) 0 (199 + f) 0) := by
  have fa := hf.1
  have fb := hf.2
  have fin : ∀ j, jx_su (jx_su μ 0 (159 + f) l) 0 (199 + f) 0 0 j = if j = 199 + f then 0 else if j = 159 + f then l else μ 0 j := fun j => by rw [jx_su_same, jx_su_same]
  have en : ∀ q i, q ≠ 2 → jx_su σ 2 f l q i = σ q i := fun q i h => jx_su_ne h
  have e2 : ∀ i, jx_su σ 2 f l 2 i = if i = f then l else σ 2 i := fun i => jx_su_same
  obtain ⟨c0, c1, c2, c3, c4, c5, c6, c7⟩ := hA
  refine ⟨?_, fun m m0 m1 => ?_, fun m hm => ?_, fun m k hm k0 k1 => ?_, fun c hc => ?_, fun c k hc hne k0 k1 => ?_, ?_, ?_⟩
  · rw [fin, if_neg (by omega), if_neg (by omega), c0, en 7 _ (by decide)]
  · rw [fin, if_neg (by omega), e2]
    by_cases z : m = f
    · rw [if_pos (by omega), if_pos (by omega), if_pos z]
    · rw [if_neg (by omega), if_neg z, c1 m m0 m1]
  · have := hm.1.2
    have := hm.1.1
    rw [fin, en 3 _ (by decide)]
    by_cases z : m = f
    · rw [if_pos (by omega), z, h3]
    · have hm' : lvn σ m := by
        have h2 := hm.2
        rw [e2, if_neg z] at h2
        exact ⟨hm.1, h2⟩
      rw [if_neg (by omega), if_neg (by omega), c2 m hm']
  · have := hm.1.2
    have := hm.1.1
    rw [en 3 _ (by decide)] at k1
    have z : m ≠ f := fun z => by rw [z, h3] at k1; omega
    have hm' : lvn σ m := by
      have h2 := hm.2
      rw [e2, if_neg z] at h2
      exact ⟨hm.1, h2⟩
    rw [fin, if_neg (by omega), if_neg (by omega), c3 m k hm' k0 k1]
    exact (en 6 _ (by decide)).symm
  · have := hc.1
    have := hc.2
    rw [fin, if_neg (by omega), if_neg (by omega), c4 c hc, en 0 _ (by decide)]
  · have := hc.1
    have := hc.2
    rw [en 0 _ (by decide)] at hne ⊢
    rw [fin, if_neg (by omega), if_neg (by omega), c5 c k hc hne k0 k1]
  · rw [fin, if_neg (by omega), if_neg (by omega), c6, en 8 _ (by decide)]
  · rw [fin, if_neg (by omega), if_neg (by omega), c7, en 9 _ (by decide)]
theorem g_sorts {σ μ : jx_St} {P : List (Int × Int)} {E : List Int} {n ax : Int} (hW : Ws σ P E) (hA : Ag σ μ) (hn : lvn σ n) (h5 : σ 3 n = 5) (hax : 0 ≤ ax ∧ ax < 2) (hs : ∀ k, 0 ≤ k → k < 5 → sdk σ μ (th σ n k) (σ 2 n)) : ∃ b : jx_St, ((∀ z, z ≠ 21 → b z = μ z) ∧ ∀ j, 0 ≤ j → j < 5 → b 21 j = wS σ n ax j) ∧ ∀ (Q : jx_St → Prop), Q b → wp_M_sorts Q μ n ax := by
  have hlR := hW.R2 hn
  have inner : ∀ (μ0 : jx_St) (k : Int), 0 ≤ k → k < 5 → (∀ z, z ≠ 21 → μ0 z = μ z) → (∀ j, 0 ≤ j → j < k → μ0 21 j = srF (fun x => kyF (hv σ x (σ 2 n)) ax) (th σ n) k.toNat j) →
      ∃ b : jx_St × Int, ((0 ≤ b.2 ∧ b.2 ≤ k) ∧ (∀ z, z ≠ 21 → b.1 z = μ z) ∧ ∀ j, 0 ≤ j → j ≤ k → (if j = b.2 then th σ n k else b.1 21 j) = srF (fun x => kyF (hv σ x (σ 2 n)) ax) (th σ n) (k.toNat + 1) j) ∧ ∀ (g : jx_St → Prop) (K : jx_St × Int → Prop), K b → jx_lp (fun B v => wp_M_sorts_28 g n ax K (σ 2 n) k (th σ n k) B v.1 v.2) (μ0, k) := by
    intro μ0 k k0 k5 h0 h1
    have ekk : ((k.toNat : Nat) : Int) = k := Int.toNat_of_nonneg k0
    refine go_loop (γ := jx_St → Prop) (F := fun g K B (v : jx_St × Int) => wp_M_sorts_28 g n ax K (σ 2 n) k (th σ n k) B v.1 v.2) (fun v => 0 ≤ v.2 ∧ v.2 ≤ k ∧ (∀ z, z ≠ 21 → v.1 z = μ z) ∧ ∃ f : Int → Int, insF (fun x => kyF (hv σ x (σ 2 n)) ax) f (th σ n k) v.2.toNat = srF (fun x => kyF (hv σ x (σ 2 n)) ax) (th σ n) (k.toNat + 1) ∧ ∀ j, 0 ≤ j → j ≤ k → j ≠ v.2 → v.1 21 j = f j ∧ ∃ r, 0 ≤ r ∧ r < 5 ∧ f j = th σ n r) (fun v => v.2.toNat) _ (fun v hI => ?_) ⟨k0, Int.le_refl _, h0, srF (fun x => kyF (hv σ x (σ 2 n)) ax) (th σ n) k.toNat, ?_, fun j j0 j1 j2 => ⟨h1 j j0 (by dsimp only at j2; omega), ?_⟩⟩
    · obtain ⟨μ1, i⟩ := v
      obtain ⟨b1, b2, b3, f, b4, b5⟩ := hI
      dsimp only at b1 b2 b3 b4 b5 ⊢
      have hA1 : Ag σ μ1 := hA.of (b3 0 (by decide))
      have hs1 : ∀ r, 0 ≤ r → r < 5 → sdk σ μ1 (th σ n r) (σ 2 n) := fun r r0 r1 => (hs r r0 r1).of (fun _ j _ _ => by rw [b3 7 (by decide)])
      by_cases c : i ≤ 0
      · left
        have ei : i = 0 := by omega
        subst ei
        refine ⟨(μ1, 0), ⟨⟨Int.le_refl _, k0⟩, b3, fun j j0 j1 => ?_⟩, fun g K B hK => ⟨jx_inR (by omega) (by omega), fun _ => hK, fun z => absurd c z⟩⟩
        rw [← b4]
        show _ = if j = 0 then th σ n k else f j
        dsimp only
        by_cases z : j = 0
        · rw [if_pos z, if_pos z]
        · rw [if_neg z, if_neg z]; exact (b5 j j0 j1 z).1
      · have ei : i.toNat = (i - 1).toNat + 1 := by omega
        have ec : (((i - 1).toNat : Nat) : Int) = i - 1 := Int.toNat_of_nonneg (by omega)
        rw [ei] at b4
        simp only [insF] at b4
        rw [ec] at b4
        obtain ⟨g1, r, r0, r1, g2⟩ := b5 (i - 1) (by omega) (by omega) (by omega)
        have sp : sdk σ μ1 (f (i - 1)) (σ 2 n) := by rw [g2]; exact hs1 r r0 r1
        have sx := hs1 k k0 k5
        have p1 := bs_ge (hv σ (f (i - 1)) (σ 2 n)) ax
        have p2 := bs_lt (hv σ (f (i - 1)) (σ 2 n)) ax
        have p3 := bs_ge (hv σ (f (i - 1)) (σ 2 n)) (ax + 2)
        have p4 := bs_lt (hv σ (f (i - 1)) (σ 2 n)) (ax + 2)
        have q1 := bs_ge (hv σ (th σ n k) (σ 2 n)) ax
        have q2 := bs_lt (hv σ (th σ n k) (σ 2 n)) ax
        have q3 := bs_ge (hv σ (th σ n k) (σ 2 n)) (ax + 2)
        have q4 := bs_lt (hv σ (th σ n k) (σ 2 n)) (ax + 2)
        have lead : ∀ (g : jx_St → Prop) (K : jx_St × Int → Prop) (B : jx_St × Int → Prop), (kyF (hv σ (f (i - 1)) (σ 2 n)) ax ≤ kyF (hv σ (th σ n k) (σ 2 n)) ax → K (μ1, i)) → (¬ kyF (hv σ (f (i - 1)) (σ 2 n)) ax ≤ kyF (hv σ (th σ n k) (σ 2 n)) ax → wp_M_sorts_115 g n ax B K μ1 (σ 2 n) k (th σ n k) i) → wp_M_sorts_28 g n ax K (σ 2 n) k (th σ n k) B μ1 i := by
          intro g K B hK hB
          unfold kyF at hK hB
          refine ⟨jx_inR (by omega) (by omega), fun z => absurd z c, fun _ => ⟨⟨by omega, by show i - 1 < 5; omega⟩, ?_⟩⟩
          rw [g1]
          rw [show 2 + ax = ax + 2 by omega]
          refine m_side hA1 sp hlR hax.1 (by omega) (m_side hA1 sx hlR hax.1 (by omega) ⟨bs_R _ _, bs_R _ _, fun c1 => ⟨⟨by omega, by show i - 1 < 5; omega⟩, m_side hA1 sp hlR hax.1 (by omega) (m_side hA1 sx hlR hax.1 (by omega) ⟨bs_R _ _, bs_R _ _, fun c2 => ⟨⟨by omega, by show i - 1 < 5; omega⟩, m_side hA1 sp hlR (by omega) (by omega) (m_side hA1 sx hlR (by omega) (by omega) ⟨bs_R _ _, bs_R _ _, fun c3 => hK (by omega), fun c3 => hB (by omega)⟩)⟩, fun c2 => hK (by omega)⟩)⟩, fun c1 => hB (by omega)⟩)
        by_cases d : kyF (hv σ (f (i - 1)) (σ 2 n)) ax ≤ kyF (hv σ (th σ n k) (σ 2 n)) ax
        · left
          rw [if_neg (by omega)] at b4
          refine ⟨(μ1, i), ⟨⟨b1, b2⟩, b3, fun j j0 j1 => ?_⟩, fun g K B hK => lead g K B (fun _ => hK) (fun z => absurd d z)⟩
          rw [← b4]
          dsimp only
          by_cases z : j = i
          · rw [if_pos z, if_pos (by omega)]
          · rw [if_neg z, if_neg (by omega)]; exact (b5 j j0 j1 z).1
        · right
          rw [if_pos (by omega)] at b4
          refine ⟨(jx_su μ1 21 i (μ1 21 (i - 1)), i + -1), ⟨by dsimp only; omega, by dsimp only; omega, fun z hz => by funext j; dsimp only; rw [jx_su_ne hz, b3 z hz], _, b4, fun j j0 j1 j2 => ?_⟩, by dsimp only; omega, fun g K B hB => lead g K B (fun z => absurd z d) (fun _ => ⟨⟨by omega, by show i - 1 < 5; omega⟩, ⟨by omega, by show i < 5; omega⟩, hB⟩)⟩
          dsimp only at j2 ⊢
          rw [jx_su_same, show i - 1 + 1 = i by omega]
          by_cases z : j = i
          · rw [if_pos z, if_pos z]; exact ⟨g1, r, r0, r1, g2⟩
          · rw [if_neg z, if_neg z]; exact b5 j j0 j1 z
    · dsimp only
      simp only [srF]
      rw [ekk]
    · dsimp only at j2
      obtain ⟨r, r0, r1, e⟩ := srF_mem (key := fun x => kyF (hv σ x (σ 2 n)) ax) (row := th σ n) (k := k.toNat) j0 (by omega)
      exact ⟨r, r0, by omega, e⟩
  have loop : ∃ b : jx_St, ((∀ z, z ≠ 21 → b z = μ z) ∧ ∀ j, 0 ≤ j → j < 5 → b 21 j = wS σ n ax j) ∧ ∀ (g : Unit) (K : jx_St → Prop), K b → jx_lp (fun B v => wp_M_sorts_9 K n ax (σ 2 n) B v.1 v.2) (μ, 0) := by
    refine go_loop (γ := Unit) (F := fun _ K B (v : jx_St × Int) => wp_M_sorts_9 K n ax (σ 2 n) B v.1 v.2) (fun v => 0 ≤ v.2 ∧ v.2 ≤ 5 ∧ (∀ z, z ≠ 21 → v.1 z = μ z) ∧ ∀ j, 0 ≤ j → j < v.2 → v.1 21 j = srF (fun x => kyF (hv σ x (σ 2 n)) ax) (th σ n) v.2.toNat j) (fun v => (5 - v.2).toNat) _ (fun v hI => ?_) ⟨Int.le_refl _, by show (0 : Int) ≤ 5; decide, fun _ _ => rfl, fun j j0 j1 => by exfalso; dsimp only at j1; omega⟩
    obtain ⟨μ1, k⟩ := v
    obtain ⟨a1, a2, a3, a4⟩ := hI
    dsimp only at a1 a2 a3 a4 ⊢
    by_cases q : k < 5
    · right
      obtain ⟨⟨μ2, i⟩, ⟨⟨i0, i1⟩, b1, b2⟩, bg⟩ := inner μ1 k a1 q a3 a4
      dsimp only at i0 i1 b1 b2
      refine ⟨(jx_su μ2 21 i (th σ n k), k + 1), ⟨by dsimp only; omega, by dsimp only; omega, fun z hz => by funext j; dsimp only; rw [jx_su_ne hz, b1 z hz], fun j j0 j1 => ?_⟩, by dsimp only; omega, fun g K B hB => ⟨jx_inR (by omega) (by omega), fun _ => m_thing (hA.of (a3 0 (by decide))) hn (by omega) a1 (by omega) (bg K _ ⟨⟨by omega, by show i < 5; omega⟩, hB⟩), fun z => absurd q z⟩⟩
      dsimp only at j1 ⊢
      rw [jx_su_same, show (k + 1).toNat = k.toNat + 1 by omega]
      exact b2 j j0 (by omega)
    · left
      have e : k = 5 := by omega
      subst e
      exact ⟨μ1, ⟨a3, a4⟩, fun g K B hK => ⟨jx_inR (by decide) (by decide), fun z => absurd z q, fun _ => hK⟩⟩
  obtain ⟨b, hb, g⟩ := loop
  exact ⟨b, hb, fun Q hQ => m_level hA hn.1 (g () Q hQ)⟩
