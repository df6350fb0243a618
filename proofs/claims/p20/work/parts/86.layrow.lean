/-! ===== the pure part: the reference lays the nodes of a level into a row ===== -/
theorem fl_split {f : Int → Int} {i : Nat} (k : Nat) (h : i < k) : ∃ R, fl f k = fl f i ++ f (i : Int) :: R := by
  induction k with
  | zero => omega
  | succ k ih =>
    rw [fl_succ]
    by_cases c : i < k
    · obtain ⟨R, hR⟩ := ih c
      exact ⟨R ++ [f (k : Int)], by rw [hR]; simp⟩
    · have : i = k := by omega
      rw [this]
      exact ⟨[], rfl⟩
theorem toNat_cast {i : Int} (h : 0 ≤ i) : ((i.toNat : Nat) : Int) = i := Int.toNat_of_nonneg h
theorem g_50 {σ ν : jx_St} {i m x : Int} (hA : Ag σ ν) (hi : 0 ≤ i ∧ i < 40) (hx : lvn σ x) (e : ν 25 i = x) (h5 : 0 ≤ σ 3 x ∧ σ 3 x ≤ 5) (hm : 0 ≤ m ∧ m + σ 3 x ≤ 32) : ∃ b : jx_St × Int, ((∀ z, z ≠ 26 → b.1 z = ν z) ∧ b.2 = m + σ 3 x ∧ fl (b.1 26) b.2.toNat = fl (ν 26) m.toNat ++ kids σ x) ∧ ∀ (g : (jx_St → Prop) × Int × Int) (K : jx_St × Int → Prop), K b → jx_lp (fun B v => wp_M_layRow_50 g.1 g.2.1 K g.2.2 i B v.1 v.2.1 v.2.2) (ν, m, 0) := by
  refine go_loop (γ := (jx_St → Prop) × Int × Int) (F := fun g K B (v : jx_St × Int × Int) => wp_M_layRow_50 g.1 g.2.1 K g.2.2 i B v.1 v.2.1 v.2.2) (fun v => 0 ≤ v.2.2 ∧ v.2.2 ≤ σ 3 x ∧ v.2.1 = m + v.2.2 ∧ (∀ z, z ≠ 26 → v.1 z = ν z) ∧ fl (v.1 26) v.2.1.toNat = fl (ν 26) m.toNat ++ fl (th σ x) v.2.2.toNat) (fun v => (8 - v.2.2).toNat) _ (fun v hI => ?_) ⟨Int.le_refl _, h5.1, by dsimp only; omega, fun _ _ => rfl, by show _ = fl (ν 26) m.toNat ++ []; rw [List.append_nil]⟩
  obtain ⟨υ, q, k⟩ := v
  obtain ⟨a1, a2, a3, a4, a5⟩ := hI
  dsimp only at a1 a2 a3 a4 a5 ⊢
  have hA1 : Ag σ υ := hA.of (a4 0 (by decide))
  have e1 : υ 25 i = x := by rw [a4 25 (by decide)]; exact e
  have hB : jx_B i 40 := ⟨hi.1, by show i < 40; omega⟩
  by_cases c : k < σ 3 x
  · right
    refine ⟨(jx_su υ 26 q (th σ x k), q + 1, k + 1), ⟨by dsimp only; omega, by dsimp only; omega, by dsimp only; omega, fun z hz => ?_, ?_⟩, by dsimp only; omega, fun g K B hB' => ⟨hB, ?_⟩⟩
    · dsimp only; rw [← a4 z hz]; funext j; exact jx_su_ne hz
    · dsimp only
      rw [show (q + 1).toNat = q.toNat + 1 by omega, show (k + 1).toNat = k.toNat + 1 by omega, fl_succ, fl_succ, ← List.append_assoc, ← a5, toNat_cast (show 0 ≤ q by omega), toNat_cast a1, jx_su_eq]
      congr 1
      exact fl_same _ (fun j j0 j1 => by rw [jx_su_same, if_neg (by omega)])
    · rw [e1]
      exact m_manyOf hA1 hx ⟨jx_inR (by omega) (by omega), jx_inR (by omega) (by omega), fun _ => ⟨hB, m_thing hA1 hx h5.2 a1 c ⟨⟨by omega, by show q < 40; omega⟩, hB'⟩⟩, fun z => absurd c z⟩
  · left
    have ek : k = σ 3 x := by omega
    refine ⟨(υ, q), ⟨a4, by dsimp only; omega, by dsimp only; rw [a5, ek]; rfl⟩, fun g K B hK => ⟨hB, ?_⟩⟩
    rw [e1]
    exact m_manyOf hA1 hx ⟨jx_inR (by omega) (by omega), jx_inR (by omega) (by omega), fun z => absurd z c, fun _ => hK⟩
theorem g_38 {σ ν : jx_St} {n : Int} (hA : Ag σ ν) (h5 : ∀ x, lvn σ x → 0 ≤ σ 3 x ∧ σ 3 x ≤ 5) (h27 : ν 27 0 = n) (hn : 0 ≤ n ∧ n ≤ 32) (hl : ∀ x ∈ fl (ν 25) n.toNat, lvn σ x) (hlen : ((fl (ν 25) n.toNat).flatMap (kids σ)).length ≤ 32) : ∃ b : jx_St × Int, ((∀ z, z ≠ 26 → b.1 z = ν z) ∧ 0 ≤ b.2 ∧ b.2 ≤ 32 ∧ fl (b.1 26) b.2.toNat = (fl (ν 25) n.toNat).flatMap (kids σ)) ∧ ∀ (g : (jx_St → Prop) × Int × Int) (K : jx_St × Int → Prop), K b → jx_lp (fun B v => wp_M_layRow_38 g.1 g.2.1 K g.2.2 B v.1 v.2.1 v.2.2) (ν, 0, 0) := by
  refine go_loop (γ := (jx_St → Prop) × Int × Int) (F := fun g K B (v : jx_St × Int × Int) => wp_M_layRow_38 g.1 g.2.1 K g.2.2 B v.1 v.2.1 v.2.2) (fun v => 0 ≤ v.2.2 ∧ v.2.2 ≤ n ∧ 0 ≤ v.2.1 ∧ (∀ z, z ≠ 26 → v.1 z = ν z) ∧ fl (v.1 26) v.2.1.toNat = (fl (ν 25) v.2.2.toNat).flatMap (kids σ)) (fun v => (40 - v.2.2).toNat) _ (fun v hI => ?_) ⟨Int.le_refl _, hn.1, Int.le_refl _, fun _ _ => rfl, rfl⟩
  obtain ⟨υ, m, i⟩ := v
  obtain ⟨a1, a2, a3, a4, a5⟩ := hI
  dsimp only at a1 a2 a3 a4 a5 ⊢
  have hA1 : Ag σ υ := hA.of (a4 0 (by decide))
  have e27 : υ 27 0 = n := by rw [a4 27 (by decide)]; exact h27
  have iR : jx_R i := jx_inR (by omega) (by omega)
  have nR : jx_R (υ 27 0) := by rw [e27]; exact jx_inR (by omega) (by omega)
  by_cases c : i < n
  · right
    obtain ⟨R, hR⟩ := fl_split (f := ν 25) (i := i.toNat) n.toNat (by omega)
    rw [toNat_cast a1] at hR
    have hx : lvn σ (ν 25 i) := hl _ (by rw [hR]; exact List.mem_append_right _ List.mem_cons_self)
    have s5 := h5 _ hx
    have elen : m.toNat + (σ 3 (ν 25 i)).toNat ≤ 32 := by
      rw [hR, List.flatMap_append, List.flatMap_cons, List.length_append, List.length_append, kids_len, ← a5, fl_len] at hlen
      omega
    obtain ⟨⟨υ2, m2⟩, ⟨b1, b2, b3⟩, bg⟩ := g_50 (i := i) (m := m) (x := ν 25 i) hA1 ⟨a1, by omega⟩ hx (by rw [a4 25 (by decide)]) s5 ⟨a3, by omega⟩
    dsimp only at b1 b2 b3
    refine ⟨(υ2, m2, i + 1), ⟨by dsimp only; omega, by dsimp only; omega, by dsimp only; omega, fun z hz => (b1 z hz).trans (a4 z hz), ?_⟩, by dsimp only; omega, fun g K B hB' => ⟨iR, nR, fun _ => ?_, fun z => absurd (show i < υ 27 0 by rw [e27]; exact c) z⟩⟩
    · dsimp only
      rw [b3, a5, show (i + 1).toNat = i.toNat + 1 by omega, fl_succ, List.flatMap_append, toNat_cast a1]
      simp
    · exact bg (g.1, g.2.1, g.2.2) (fun w => wp_M_layRow_94 g.1 g.2.1 B K w.1 g.2.2 w.2 i) hB'
  · left
    have ei : i = n := by omega
    have hm32 : m ≤ 32 := by
      have : (fl (υ 26) m.toNat).length ≤ 32 := by rw [a5, ei]; exact hlen
      rw [fl_len] at this
      omega
    exact ⟨(υ, m), ⟨a4, a3, hm32, by dsimp only; rw [a5, ei]⟩, fun g K B hK => ⟨iR, nR, fun z => absurd (show i < n by rw [← e27]; exact z) c, fun _ => hK⟩⟩
theorem g_103 {ν : jx_St} {m : Int} (hm : 0 ≤ m ∧ m ≤ 32) : ∃ b : jx_St, ((∀ z, z ≠ 25 → b z = ν z) ∧ fl (b 25) m.toNat = fl (ν 26) m.toNat) ∧ ∀ (g : (jx_St → Prop) × Int × Int) (K : jx_St → Prop), K b → jx_lp (fun B v => wp_M_layRow_103 g.1 g.2.1 K g.2.2 m B v.1 v.2) (ν, 0) := by
  refine go_loop (γ := (jx_St → Prop) × Int × Int) (F := fun g K B (v : jx_St × Int) => wp_M_layRow_103 g.1 g.2.1 K g.2.2 m B v.1 v.2) (fun v => 0 ≤ v.2 ∧ v.2 ≤ m ∧ (∀ z, z ≠ 25 → v.1 z = ν z) ∧ fl (v.1 25) v.2.toNat = fl (ν 26) v.2.toNat) (fun v => (40 - v.2).toNat) _ (fun v hI => ?_) ⟨Int.le_refl _, hm.1, fun _ _ => rfl, rfl⟩
  obtain ⟨υ, i⟩ := v
  obtain ⟨a1, a2, a3, a4⟩ := hI
  dsimp only at a1 a2 a3 a4 ⊢
  have iR : jx_R i := jx_inR (by omega) (by omega)
  have mR : jx_R m := jx_inR (by omega) (by omega)
  by_cases c : i < m
  · right
    refine ⟨(jx_su υ 25 i (υ 26 i), i + 1), ⟨by dsimp only; omega, by dsimp only; omega, fun z hz => ?_, ?_⟩, by dsimp only; omega, fun g K B hB' => ⟨iR, mR, fun _ => ⟨⟨a1, by show i < 40; omega⟩, ⟨a1, by show i < 40; omega⟩, hB'⟩, fun z => absurd c z⟩⟩
    · dsimp only; rw [← a3 z hz]; funext j; exact jx_su_ne hz
    · dsimp only
      rw [show (i + 1).toNat = i.toNat + 1 by omega, fl_succ, fl_succ, toNat_cast a1, jx_su_eq, a3 26 (by decide), ← a4]
      congr 1
      exact fl_same _ (fun j j0 j1 => by rw [jx_su_same, if_neg (by omega)])
  · left
    have ei : i = m := by omega
    exact ⟨υ, ⟨a3, by rw [← ei]; exact a4⟩, fun g K B hK => ⟨iR, mR, fun z => absurd z c, fun _ => hK⟩⟩
theorem g_layRow {σ μ ψ : jx_St} {S : List Int} {l : Int} (hW : Ws σ [] []) (hA : Ag σ μ) (hS : Sn σ ψ (σ 7 0) S) (hl : 0 ≤ l ∧ l ≤ σ 2 (σ 7 0)) : ∃ b : jx_St, ((∀ z, z ≠ 25 → z ≠ 26 → z ≠ 27 → b z = μ z) ∧ 0 ≤ b 27 0 ∧ b 27 0 ≤ 32 ∧ fl (b 25) (b 27 0).toNat = FS σ S l) ∧ ∀ (Q : jx_St → Prop), Q b → wp_M_layRow Q μ l := by
  have r3 := hW.1.2.1
  have hr := hW.1.1
  obtain ⟨μ1, hμ1⟩ : ∃ u : jx_St, u = jx_su (jx_su μ 25 0 (μ 0 0)) 27 0 1 := ⟨_, rfl⟩
  have f0 : ∀ z, z ≠ 25 → z ≠ 27 → μ1 z = μ z := fun z h1 h2 => by rw [hμ1]; funext i; rw [jx_su_ne h2, jx_su_ne h1]
  have f27 : μ1 27 0 = 1 := by rw [hμ1]; exact jx_su_eq
  have f25 : μ1 25 0 = σ 7 0 := by rw [hμ1, jx_su_ne (by decide), jx_su_eq]; exact hA.1
  have hA1 : Ag σ μ1 := hA.of (f0 0 (by decide) (by decide))
  have e0 : μ1 0 0 = σ 7 0 := hA1.1
  have lR : jx_R l := jx_inR (by omega) (by omega)
  have main := go_loop (γ := jx_St → Prop) (F := fun g (K : jx_St → Prop) B (v : jx_St × Int) => wp_M_layRow_28 K l B v.1 v.2) (fun v => l ≤ v.2 ∧ v.2 ≤ σ 2 (σ 7 0) ∧ (∀ z, z ≠ 25 → z ≠ 26 → z ≠ 27 → v.1 z = μ z) ∧ 0 ≤ v.1 27 0 ∧ v.1 27 0 ≤ 32 ∧ fl (v.1 25) (v.1 27 0).toNat = FS σ S v.2) (fun v => v.2.toNat) (fun b : jx_St => (∀ z, z ≠ 25 → z ≠ 26 → z ≠ 27 → b z = μ z) ∧ 0 ≤ b 27 0 ∧ b 27 0 ≤ 32 ∧ fl (b 25) (b 27 0).toNat = FS σ S l) (fun v hI => ?_) (a := (μ1, σ 2 (σ 7 0))) ⟨hl.2, Int.le_refl _, fun z h1 _ h3 => f0 z h1 h3, by dsimp only; rw [f27]; decide, by dsimp only; rw [f27]; decide, by dsimp only; rw [f27, fs_top hW hS]; show [] ++ [μ1 25 ((0 : Nat) : Int)] = [σ 7 0]; rw [show ((0 : Nat) : Int) = 0 from rfl, f25]; rfl⟩
  · obtain ⟨b, hb, hg⟩ := main
    refine ⟨b, hb, fun Q hQ => ?_⟩
    unfold wp_M_layRow
    rw [← hμ1, e0]
    exact m_level hA1 hr.1 (hg Q Q hQ)
  · obtain ⟨ν, a⟩ := v
    obtain ⟨a1, a2, a3, a4, a5, a6⟩ := hI
    dsimp only at a1 a2 a3 a4 a5 a6 ⊢
    have aR : jx_R a := jx_inR (by omega) (by omega)
    by_cases c : a ≤ l
    · left
      have ea : a = l := by omega
      exact ⟨ν, ⟨a3, a4, a5, by rw [← ea]; exact a6⟩, fun g K B hK => ⟨aR, lR, fun _ => hK, fun z => absurd c z⟩⟩
    · right
      have hA2 : Ag σ ν := hA.of (a3 0 (by decide) (by decide) (by decide))
      have hd : FS σ S (a - 1) = (FS σ S a).flatMap (kids σ) := by
        have := fs_down (l := a - 1) hW hS (by omega) (by omega)
        rw [show a - 1 + 1 = a by omega] at this
        exact this
      obtain ⟨⟨ν2, m⟩, ⟨b1, b2, b3, b4⟩, bg⟩ := g_38 (n := ν 27 0) hA2 (fun x hx => ⟨(hW.sh.1 x hx).1, (hW.sh.1 x hx).2.1⟩) rfl ⟨a4, a5⟩ (fun x hx => by rw [a6] at hx; exact (hS.2.2.2.2.2 x (mem_FS.mp hx).1).1) (by rw [a6, ← hd]; exact fs_len hS)
      dsimp only at b1 b2 b3 b4
      obtain ⟨ν3, ⟨c1, c2⟩, cg⟩ := g_103 (ν := ν2) (m := m) ⟨b2, b3⟩
      refine ⟨(jx_su ν3 27 0 m, a + -1), ⟨by dsimp only; omega, by dsimp only; omega, fun z h1 h2 h3 => ?_, by dsimp only; rw [jx_su_eq]; exact b2, by dsimp only; rw [jx_su_eq]; exact b3, ?_⟩, by dsimp only; omega, fun g K B hB' => ⟨aR, lR, fun z => absurd z c, fun _ => ?_⟩⟩
      · dsimp only
        rw [← a3 z h1 h2 h3, ← b1 z h2, ← c1 z h1]; funext i; exact jx_su_ne h3
      · dsimp only
        have e25 : jx_su ν3 27 0 m 25 = ν3 25 := by funext i; exact jx_su_ne (by decide)
        rw [e25, jx_su_eq, c2, b4, a6, show a + -1 = a - 1 by omega, hd]
      · exact bg (K, l, a) (fun w => wp_M_layRow_100 K l B w.1 a w.2) (cg (K, l, a) (fun w => wp_M_layRow_129 K l B w a m) hB')
