/-! ===== the pure part: the sum of the overlaps of each two nodes ===== -/
def ps (c : Int → Int → Int) : List Int → Int
  | [] => 0
  | x :: L => smL (c x) L + ps c L
theorem ps_snoc {c : Int → Int → Int} (hc : ∀ a b, c a b = c b a) {x : Int} (L : List Int) : ps c (L ++ [x]) = ps c L + smL (c x) L := by
  induction L with
  | nil => rfl
  | cons y L ih =>
    simp only [List.cons_append, ps, ih, smL_app, smL]
    rw [hc y x]
    omega
theorem coF_comm (a b : Int) : coF a b = coF b a := by
  have ht : toF a b = toF b a := by
    unfold toF
    by_cases c : a = -1 ∨ b = -1
    · rw [if_pos c, if_pos (by omega)]
    · have c2 : ¬ (b = -1 ∨ a = -1) := by omega
      rw [if_neg c, if_neg c2]
      by_cases d : bs a 0 ≤ bs b 2 ∧ bs b 0 ≤ bs a 2 ∧ bs a 1 ≤ bs b 3 ∧ bs b 1 ≤ bs a 3
      · have d2 : bs b 0 ≤ bs a 2 ∧ bs a 0 ≤ bs b 2 ∧ bs b 1 ≤ bs a 3 ∧ bs a 1 ≤ bs b 3 := by omega
        rw [if_pos d, if_pos d2]
      · have d2 : ¬ (bs b 0 ≤ bs a 2 ∧ bs a 0 ≤ bs b 2 ∧ bs b 1 ≤ bs a 3 ∧ bs a 1 ≤ bs b 3) := by omega
        rw [if_neg d, if_neg d2]
  unfold coF
  rw [ht, Int.min_comm, Int.max_comm (bs a 0), Int.min_comm (bs a 3), Int.max_comm (bs a 1)]
def cN (σ : jx_St) : Int → Int → Int := fun a b => coF (σ 4 a) (σ 4 b)
theorem sn_drop {σ ψ : jx_St} {S : List Int} {top i : Int} (hS : Sn σ ψ top S) (i0 : 0 ≤ i) (i1 : i < ψ 2 0) : S.drop i.toNat = ψ 1 i :: S.drop (i + 1).toNat := by
  obtain ⟨h1, h2, h3, _⟩ := hS
  have hlt : i.toNat < S.length := by rw [h3, fl_len]; omega
  rw [List.drop_eq_getElem_cons hlt, show (i + 1).toNat = i.toNat + 1 by omega]
  congr 1
  have := fl_get (f := ψ 1) (k := (ψ 2 0).toNat) (j := i.toNat) (by omega)
  rw [← h3, List.getElem?_eq_getElem hlt, toNat_cast i0] at this
  exact Option.some.inj this
theorem sn_drop_all {σ ψ : jx_St} {S : List Int} {top : Int} (hS : Sn σ ψ top S) : S.drop (ψ 2 0).toNat = [] := by
  obtain ⟨h1, h2, h3, _⟩ := hS
  rw [List.drop_eq_nil_iff, h3, fl_len]
  exact Nat.le_refl _
theorem p_hullSeen {Q : Int → Prop} {ψ σ : jx_St} {i : Int} (h0 : 0 ≤ i) (h1 : i < 32) (hn : nd (ψ 1 i)) (h : Q (σ 4 (ψ 1 i))) : wp_S_hullSeen Q ψ σ i :=
  p_nodeSeen h0 h1 ⟨hn.R, by rw [jx_at_in hn.1 hn.2]; exact h⟩
theorem p_overlapsOf {Q : Int → jx_St → Prop} {ψ σ : jx_St} {l : Int} (hW : Ws σ [] []) (hH : Hs σ []) (lR : jx_R l) (h : ∀ ψ' ψs S, Sn σ ψs (σ 7 0) S → Q (ps (cN σ) (FS σ S l)) ψ') : wp_S_overlapsOf Q ψ σ l := by
  refine p_lookFrom hW hW.1.1 (fun ψ1 S hS => ?_)
  have s1 := hS.1
  have s2 := hS.2.1
  have nR : jx_R (ψ1 2 0) := jx_inR (by omega) (by omega)
  have hd0 : S.drop (0 : Int).toNat = S := rfl
  refine jx_loop (fun v => 0 ≤ v.2 ∧ v.2 ≤ ψ1 2 0 ∧ v.1 + ps (cN σ) (FS σ (S.drop v.2.toNat) l) = ps (cN σ) (FS σ S l)) (fun v => (ψ1 2 0 - v.2).toNat) (fun B v hI hB => ?_) ⟨Int.le_refl _, s1, by dsimp only; rw [hd0]; omega⟩
  obtain ⟨a, i⟩ := v
  obtain ⟨a1, a2, a3⟩ := hI
  dsimp only at a1 a2 a3 ⊢
  refine ⟨jx_inR (by omega) (by omega), nR, fun q => ?_, fun q => ?_⟩
  · obtain ⟨n1, n2⟩ := sn_nd hS a1 q
    have hdi := sn_drop hS a1 q
    refine jx_loop (fun w => i + 1 ≤ w.2 ∧ w.2 ≤ ψ1 2 0 ∧ w.1 + (if σ 2 (ψ1 1 i) = l then smL (cN σ (ψ1 1 i)) (FS σ (S.drop w.2.toNat) l) else 0) + ps (cN σ) (FS σ (S.drop (i + 1).toNat) l) = ps (cN σ) (FS σ S l)) (fun w => (ψ1 2 0 - w.2).toNat) (fun B' w hJ hB' => ?_) ⟨Int.le_refl _, by dsimp only; omega, ?_⟩
    · obtain ⟨b, j⟩ := w
      obtain ⟨b1, b2, b3⟩ := hJ
      dsimp only at b1 b2 b3 ⊢
      refine ⟨jx_inR (by omega) (by omega), nR, fun y => ?_, fun y => ?_⟩
      · obtain ⟨m1, m2⟩ := sn_nd hS (show 0 ≤ j by omega) y
        have hdj := sn_drop hS (show 0 ≤ j by omega) y
        refine p_levelSeen a1 n2 n1.1 ⟨hW.R2 n1, lR, fun c => ?_, fun c => ?_⟩
        · rw [if_pos c, hdj] at b3
          refine p_levelSeen (by omega) m2 m1.1 ⟨hW.R2 m1, lR, fun d => ?_, fun d => ?_⟩
          · rw [FS_cons_pos d, smL_cons] at b3
            refine p_hullSeen a1 n2 n1.1 (p_hullSeen (by omega) m2 m1.1 (p_common (hH.1 _ n1.1).R (hH.1 _ m1.1).R (hB' _ ⟨by dsimp only; omega, by dsimp only; omega, ?_⟩ (by dsimp only; omega))))
            dsimp only
            rw [if_pos c, ← b3]
            unfold cN
            omega
          · rw [FS_cons_neg d] at b3
            refine hB' _ ⟨by dsimp only; omega, by dsimp only; omega, ?_⟩ (by dsimp only; omega)
            dsimp only
            rw [if_pos c]
            exact b3
        · rw [if_neg c] at b3
          refine hB _ ⟨by dsimp only; omega, by dsimp only; omega, ?_⟩ (by dsimp only; omega)
          dsimp only
          omega
      · have ej : j = ψ1 2 0 := by omega
        rw [ej, sn_drop_all hS] at b3
        refine hB _ ⟨by dsimp only; omega, by dsimp only; omega, ?_⟩ (by dsimp only; omega)
        dsimp only
        have e0 : smL (cN σ (ψ1 1 i)) (FS σ [] l) = 0 := rfl
        rw [e0] at b3
        split at b3 <;> omega
    · dsimp only
      rw [hdi] at a3
      by_cases c : σ 2 (ψ1 1 i) = l
      · rw [if_pos c]
        rw [FS_cons_pos c] at a3
        simp only [ps] at a3
        omega
      · rw [if_neg c]
        rw [FS_cons_neg c] at a3
        omega
  · have ei : i = ψ1 2 0 := by omega
    rw [ei, sn_drop_all hS] at a3
    have e0 : ps (cN σ) (FS σ [] l) = 0 := rfl
    rw [e0, Int.add_zero] at a3
    rw [a3]
    exact h ψ1 ψ1 S hS
theorem g_overlapsOf {σ μ ψ : jx_St} {S : List Int} {l : Int} (hW : Ws σ [] []) (hH : Hs σ []) (hA : Ag σ μ) (hS : Sn σ ψ (σ 7 0) S) (hl : 0 ≤ l ∧ l ≤ σ 2 (σ 7 0)) : ∃ b : jx_St, (∀ z, z ≠ 7 → z ≠ 8 → z ≠ 9 → z ≠ 10 → z ≠ 25 → z ≠ 26 → z ≠ 27 → b z = μ z) ∧ ∀ (Q : Int → jx_St → Prop), Q (ps (cN σ) (FS σ S l)) b → wp_M_overlapsOf Q μ l := by
  obtain ⟨μ1, ⟨l1, l2⟩, lg⟩ := g_lay hW hH hA
  have hA1 : Ag σ μ1 := hA.of (l1 0 (by decide) (by decide))
  obtain ⟨μ2, ⟨c1, c2, c3, c4⟩, cg⟩ := g_layRow hW hA1 hS hl
  have nR : jx_R (μ2 27 0) := jx_inR (by omega) (by omega)
  have e7 : μ2 7 = μ1 7 := c1 7 (by decide) (by decide) (by decide)
  have hget : ∀ j : Int, 0 ≤ j → j < μ2 27 0 → μ2 25 j ∈ FS σ S l := fun j j0 j1 => by rw [← c4]; exact mem_fl.mpr ⟨j, j0, by omega, rfl⟩
  have hlv : ∀ x, x ∈ FS σ S l → lvn σ x := fun x hx => (hS.2.2.2.2.2 x (mem_FS.mp hx).1).1
  -- of two, none is the root
  have hne : 1 < μ2 27 0 → ∀ x, x ∈ FS σ S l → vb (σ 4 x) ∧ 1 ≤ σ 3 x := fun h2 x hx => by
    have hxl := hlv x hx
    have hnr : x ≠ σ 7 0 := fun e => by
      have el : σ 2 (σ 7 0) = l := by rw [← e]; exact (mem_FS.mp hx).2
      have h1 := congrArg List.length c4
      rw [fl_len, ← el, fs_top hW hS] at h1
      simp only [List.length_cons, List.length_nil] at h1
      omega
    have h2 := ((hW.2.2.2.1 x hxl).2.2.resolve_left List.not_mem_nil).1 hnr
    exact ⟨vh_hull hW hH hxl (by omega), by omega⟩
  have main := go_loop (γ := Unit) (F := fun (_ : Unit) (K : jx_St × Int → Prop) B (v : jx_St × Int × Int) => wp_M_overlapsOf_13 (fun r s => K (s, r)) l B v.1 v.2.1 v.2.2) (fun v => 0 ≤ v.2.2 ∧ v.2.2 ≤ μ2 27 0 ∧ (∀ z, z ≠ 9 → z ≠ 10 → v.1 z = μ2 z) ∧ v.2.1 = ps (cN σ) (fl (μ2 25) v.2.2.toNat)) (fun v => (40 - v.2.2).toNat) (fun b : jx_St × Int => (∀ z, z ≠ 9 → z ≠ 10 → b.1 z = μ2 z) ∧ b.2 = ps (cN σ) (FS σ S l)) (fun v hI => ?_) (a := (μ2, 0, 0)) ⟨Int.le_refl _, c2, fun _ _ _ => rfl, rfl⟩
  · obtain ⟨⟨b, r⟩, ⟨h1, h2⟩, hg⟩ := main
    dsimp only at h1 h2
    refine ⟨b, fun z z7 z8 z9 z10 z25 z26 z27 => by rw [h1 z z9 z10, c1 z z25 z26 z27, l1 z z7 z8], fun Q hQ => lg _ (cg _ ?_)⟩
    exact hg () (fun w => Q w.2 w.1) (by dsimp only; rw [h2]; exact hQ)
  · obtain ⟨ν, s, i⟩ := v
    obtain ⟨a1, a2, a3, a4⟩ := hI
    dsimp only at a1 a2 a3 a4 ⊢
    have e27 : ν 27 0 = μ2 27 0 := by rw [a3 27 (by decide) (by decide)]
    have iR : jx_R i := jx_inR (by omega) (by omega)
    by_cases c : i < μ2 27 0
    · right
      have inner := go_loop (γ := (Int → jx_St → Prop) × (jx_St × Int × Int → Prop)) (F := fun g (K : jx_St × Int → Prop) B (v : jx_St × Int × Int) => wp_M_overlapsOf_24 g.1 l K i B v.1 v.2.1 v.2.2) (fun v => 0 ≤ v.2.2 ∧ v.2.2 ≤ i ∧ (∀ z, z ≠ 9 → z ≠ 10 → v.1 z = μ2 z) ∧ v.2.1 = s + smL (cN σ (μ2 25 i)) (fl (μ2 25) v.2.2.toNat)) (fun v => (40 - v.2.2).toNat) (fun b : jx_St × Int => (∀ z, z ≠ 9 → z ≠ 10 → b.1 z = μ2 z) ∧ b.2 = s + smL (cN σ (μ2 25 i)) (fl (μ2 25) i.toNat)) (fun v hI => ?_) (a := (ν, s, 0)) ⟨Int.le_refl _, a1, a3, by show s = s + 0; omega⟩
      · obtain ⟨⟨ν2, s2⟩, ⟨b1, b2⟩, bg⟩ := inner
        dsimp only at b1 b2
        refine ⟨(ν2, s2, i + 1), ⟨by dsimp only; omega, by dsimp only; omega, b1, ?_⟩, by dsimp only; omega, fun _ K B hB => ⟨iR, by rw [e27]; exact nR, fun _ => ?_, fun z => absurd (show i < ν 27 0 by rw [e27]; exact c) z⟩⟩
        · dsimp only
          rw [b2, a4, show (i + 1).toNat = i.toNat + 1 by omega, fl_succ, ps_snoc (c := cN σ) (fun a b => coF_comm _ _), toNat_cast a1]
        · exact bg ((fun r s => K (s, r)), B) (fun w => wp_M_overlapsOf_74 (fun r s => K (s, r)) l B w.1 w.2 i) hB
      · obtain ⟨υ, t, k⟩ := v
        obtain ⟨b1, b2, b3, b4⟩ := hI
        dsimp only at b1 b2 b3 b4 ⊢
        have kR : jx_R k := jx_inR (by omega) (by omega)
        by_cases d : k < i
        · right
          have hA3 : Ag σ υ := hA1.of (by rw [b3 0 (by decide) (by decide), c1 0 (by decide) (by decide) (by decide)])
          have hmi := hget i a1 c
          have hmk := hget k b1 (by omega)
          obtain ⟨vi, zi⟩ := hne (by omega) _ hmi
          obtain ⟨vk, zk⟩ := hne (by omega) _ hmk
          have hsd : ∀ (υ' : jx_St) x, x ∈ FS σ S l → υ' 7 = μ1 7 → sdk σ υ' x 1 := fun υ' x hx h7 => ⟨fun z => absurd z (by decide), fun _ => ⟨(hlv x hx).1, fun q q0 q1 => by rw [h7]; exact (l2 x (hlv x hx)).1 (hne (by omega) x hx).2 q q0 q1⟩⟩
          have h7 : υ 7 = μ1 7 := by rw [b3 7 (by decide) (by decide), e7]
          obtain ⟨υ1, ⟨x1, x2⟩, xg⟩ := g_takes_one (x := μ2 25 i) (l := 1) hA3 (hsd υ _ hmi h7) (jx_inR (by decide) (by decide))
          have hA4 : Ag σ υ1 := hA3.of (x1 0 (by decide))
          obtain ⟨υ2, ⟨y1, y2⟩, yg⟩ := g_takes_two (x := μ2 25 k) (l := 1) hA4 (hsd υ1 _ hmk (by rw [x1 7 (by decide), h7])) (jx_inR (by decide) (by decide))
          have eh : ∀ x, hv σ x 1 = σ 4 x := fun x => by unfold hv; rw [if_neg (by decide)]
          rw [eh] at x2 y2
          have x2' : Ms υ2 9 (σ 4 (μ2 25 i)) := fun q q0 q1 => by rw [y1 9 (by decide)]; exact x2 q q0 q1
          refine ⟨(υ2, t + coF (σ 4 (μ2 25 i)) (σ 4 (μ2 25 k)), k + 1), ⟨by dsimp only; omega, by dsimp only; omega, fun z z9 z10 => by dsimp only; rw [y1 z z10, x1 z z9, b3 z z9 z10], ?_⟩, by dsimp only; omega, fun g K B hB => ⟨kR, iR, fun _ => ⟨⟨a1, by show i < 40; omega⟩, ?_⟩, fun z => absurd d z⟩⟩
          · dsimp only
            rw [b4, show (k + 1).toNat = k.toNat + 1 by omega, fl_succ, smL_app, toNat_cast b1]
            show s + _ + coF _ _ = s + (_ + (coF _ _ + 0))
            omega
          · rw [b3 25 (by decide) (by decide)]
            refine xg _ ⟨⟨b1, by show k < 40; omega⟩, ?_⟩
            rw [x1 25 (by decide), b3 25 (by decide) (by decide)]
            exact yg _ (m_common vi vk x2' y2 hB)
        · left
          have ek : k = i := by omega
          exact ⟨(υ, t), ⟨b3, by dsimp only; rw [b4, ek]⟩, fun g K B hK => ⟨kR, iR, fun z => absurd z d, fun _ => hK⟩⟩
    · left
      have ei : i = μ2 27 0 := by omega
      refine ⟨(ν, s), ⟨a3, by dsimp only; rw [a4, ei, c4]⟩, fun _ K B hK => ⟨iR, by rw [e27]; exact nR, fun z => absurd (show i < μ2 27 0 by rw [← e27]; exact z) c, fun _ => hK⟩⟩
