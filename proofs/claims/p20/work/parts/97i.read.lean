theorem pk_succ {c : Int → Int} {p i : Int} (h : 0 ≤ i) : pk c p (i + 1).toNat = (nm c (pk c p i.toNat)).2 + 1 := by
  rw [show (i + 1).toNat = i.toNat + 1 by omega]
  rfl
theorem p_read55 {Q : Int → jx_St → Prop} {o : jx_St} {l1 w p : Int} (h : Txo o) (hp : o 4 0 = p) (p0 : 0 ≤ p) (p1 : p ≤ o 1 0) (hw : 1 ≤ w ∧ w ≤ 5)
    (hQ : ∀ o', (∀ k, k ≠ 2 → k ≠ 4 → o' k = o k) → o' 4 0 = (rdr (chr o) p w w.toNat 0).2 → ((rdr (chr o) p w w.toNat 0).1 = 1 → ∀ k, 0 ≤ k → k < w → o' 2 k = nu (chr o) p k) → Q (rdr (chr o) p w w.toNat 0).1 o') : wp_O_read_55 Q l1 o w := by
  have L0 := h.1
  have L1 := h.2.1
  refine jx_loop (fun v => 0 ≤ v.2 ∧ v.2 ≤ w ∧ (∀ k, k ≠ 2 → k ≠ 4 → v.1 k = o k) ∧ v.1 4 0 = pk (chr o) p v.2.toNat ∧ 0 ≤ pk (chr o) p v.2.toNat ∧ pk (chr o) p v.2.toNat ≤ o 1 0 ∧ (∀ k, 0 ≤ k → k < v.2 → v.1 2 k = nu (chr o) p k) ∧ rdr (chr o) p w (w - v.2).toNat v.2 = rdr (chr o) p w w.toNat 0) (fun v => (w - v.2).toNat) (fun B v hI hB => ?_) ⟨Int.le_refl _, by dsimp only; omega, fun _ _ _ => rfl, hp, (by exact p0), (by exact p1), fun k k0 k1 => by dsimp only at k1; omega, by dsimp only; rw [Int.sub_zero]⟩
  obtain ⟨o1, i⟩ := v
  obtain ⟨a1, a2, a3, a4, a5, a6, a7, a8⟩ := hI
  dsimp only at a1 a2 a3 a4 a5 a6 a7 a8 ⊢
  have iR : jx_R i := jx_inR (by omega) (by omega)
  have wR : jx_R w := jx_inR (by omega) (by omega)
  have ec : ∀ j, chr o1 j = chr o j := fun j => by unfold chr; rw [a3 1 (by decide) (by decide), a3 0 (by decide) (by decide)]
  have ef : chr o1 = chr o := funext ec
  have h1 : Txo o1 := by unfold Txo at h ⊢; rw [a3 1 (by decide) (by decide), a3 0 (by decide) (by decide)]; exact h
  refine ⟨iR, wR, fun q => ?_, fun q => ?_⟩
  · rw [show (w - i).toNat = (w - (i + 1)).toNat + 1 by omega] at a8
    simp only [rdr] at a8
    by_cases d : 48 ≤ chr o (pk (chr o) p i.toNat) ∧ chr o (pk (chr o) p i.toNat) ≤ 57
    · rw [if_pos d] at a8
      have hb := nm_bd h d
      generalize hpi : pk (chr o) p i.toNat = P at a4 a5 a6 a8 d hb
      refine p_readNumber_t h1 (by rw [a4]; exact a5) (by rw [a4]; omega) ⟨a1, by omega⟩ (by rw [a4, ec]; exact d) ?_
      rw [a4, ef]
      generalize hE : (nm (chr o) P).2 = e at a8 hb
      have eN : nu (chr o) p i = (nm (chr o) P).1 := by unfold nu; rw [hpi]
      generalize ho2 : jx_su (jx_su o1 4 0 e) 2 i (nm (chr o) P).1 = o2
      have x4 : o2 4 0 = e := by rw [← ho2, jx_su_ne (by decide), jx_su_eq]
      have x2 : ∀ j, o2 2 j = if j = i then nu (chr o) p i else o1 2 j := fun j => by rw [← ho2, jx_su_same, jx_su_ne (by decide), eN]
      have xn : ∀ k, k ≠ 2 → k ≠ 4 → o2 k = o k := fun k k2 k4 => by rw [← ho2, ← a3 k k2 k4]; funext j; rw [jx_su_ne k2, jx_su_ne k4]
      have ef2 : chr o2 = chr o := by funext j; unfold chr; rw [xn 1 (by decide) (by decide), xn 0 (by decide) (by decide)]
      have h2 : Txo o2 := by unfold Txo at h ⊢; rw [xn 1 (by decide) (by decide), xn 0 (by decide) (by decide)]; exact h
      have fin : ∀ t, t = dl w i → wp_O_read_86 Q l1 B o2 w i t := fun t ht => by
        have tb : 0 < t ∧ t ≤ 126 := by rw [ht]; unfold dl; split <;> omega
        refine p_signIs h2 (by rw [x4]; omega) (by rw [x4]; omega) tb.1 tb.2 ?_
        rw [ef2, x4]
        by_cases y : chr o e = t
        · rw [if_pos y]
          rw [if_pos (by rw [← ht]; exact y)] at a8
          refine c1 (hB _ ⟨by dsimp only; omega, by dsimp only; omega, fun k k2 k4 => ?_, ?_, ?_, ?_, fun k k0 k1 => ?_, a8⟩ (by dsimp only; omega))
          · dsimp only; rw [← xn k k2 k4]; funext j; exact jx_su_ne k4
          · dsimp only; rw [jx_su_eq, pk_succ a1, hpi, hE]
          · dsimp only; rw [pk_succ a1, hpi, hE]; omega
          · dsimp only; rw [pk_succ a1, hpi, hE]
            have : e < o 1 0 := by rcases chr_bd h e with z | z <;> omega
            omega
          · dsimp only at k1 ⊢
            rw [jx_su_ne (by decide), x2]
            by_cases z : k = i
            · rw [if_pos z, z]
            · rw [if_neg z]; exact a7 k k0 (by omega)
        · rw [if_neg y]
          rw [if_neg (by rw [← ht]; exact y)] at a8
          have := hQ o2 xn (by rw [← a8]; exact x4) (fun z => absurd (show (0 : Int) = 1 from by rw [← a8] at z; exact z) (by decide))
          rw [← a8] at this
          exact c0 this
      exact c1 ⟨iR, jx_inR (by omega) (by omega), fun z => fin 59 (by unfold dl; rw [if_pos z]), fun z => fin 44 (by unfold dl; rw [if_neg z])⟩
    · rw [if_neg d] at a8
      have := hQ o1 a3 (by rw [← a8]; exact a4) (fun z => absurd (show (0 : Int) = 1 from by rw [← a8] at z; exact z) (by decide))
      rw [← a8] at this
      exact p_readNumber_f h1 (by rw [a4]; exact a5) (by rw [a4]; omega) (by rw [a4, ec]; exact d) (c0 this)
  · have ei : i = w := by omega
    rw [ei, Int.sub_self] at a8
    simp only [Int.toNat_zero, rdr] at a8
    rw [ei] at a4 a7
    have := hQ o1 a3 (by rw [← a8]; exact a4) (fun _ => a7)
    rw [← a8] at this
    exact this
def wP (c : Int → Int) (p : Int) : Int := if c p = 43 then 1 else 0
def wW (c : Int → Int) (p : Int) : Int := if c p = 43 then 5 else 1
/-- what becomes of the reading of an order -/
def rdo (c : Int → Int) (p : Int) : Int × Int := if c p = 43 ∨ c p = 45 then rdr c (p + 1) (wW c p) (wW c p).toNat 0 else (0, p)
theorem p_read {Q : Int → jx_St → Prop} {o : jx_St} {p : Int} (h : Txo o) (p0 : 0 ≤ p) (p1 : p ≤ o 1 0)
    (hQ : ∀ o', (∀ k, k ≠ 2 → k ≠ 3 → k ≠ 4 → o' k = o k) → o' 3 0 = wP (chr o) p → o' 4 0 = (rdo (chr o) p).2 → ((rdo (chr o) p).1 = 1 → ∀ k, 0 ≤ k → k < wW (chr o) p → o' 2 k = nu (chr o) (p + 1) k) → Q (rdo (chr o) p).1 o') : wp_O_read Q o p := by
  have L1 := h.2.1
  generalize ho : jx_su o 4 0 p = o1
  have x4 : o1 4 0 = p := by rw [← ho, jx_su_eq]
  have xn : ∀ k, k ≠ 4 → o1 k = o k := fun k hk => by rw [← ho]; funext j; exact jx_su_ne hk
  have ef : chr o1 = chr o := by funext j; unfold chr; rw [xn 1 (by decide), xn 0 (by decide)]
  have h1 : Txo o1 := by unfold Txo at h ⊢; rw [xn 1 (by decide), xn 0 (by decide)]; exact h
  unfold wp_O_read
  rw [ho]
  refine p_signIs h1 (by rw [x4]; exact p0) (by rw [x4]; omega) (by decide) (by decide) ?_
  rw [ef, x4]
  -- with the sign
  have go : ∀ t, t = wP (chr o) p → (chr o p = 43 ∨ chr o p = 45) → wp_O_read_33 Q p (jx_su o1 3 0 t) := fun t ht hor => by
    have hin : p < o 1 0 := by rcases chr_bd h p with z | z <;> omega
    have er : rdo (chr o) p = rdr (chr o) (p + 1) (wW (chr o) p) (wW (chr o) p).toNat 0 := by unfold rdo; rw [if_pos hor]
    rw [er] at hQ
    have y4 : jx_su o1 3 0 t 4 0 = p := by rw [jx_su_ne (by decide), x4]
    unfold wp_O_read_33
    rw [y4]
    generalize ho3 : jx_su (jx_su o1 3 0 t) 4 0 (p + 1) = o3
    have z4 : o3 4 0 = p + 1 := by rw [← ho3, jx_su_eq]
    have z3 : o3 3 0 = wP (chr o) p := by rw [← ho3, jx_su_ne (by decide), jx_su_eq, ht]
    have zn : ∀ k, k ≠ 3 → k ≠ 4 → o3 k = o k := fun k k3 k4 => by rw [← ho3, ← xn k k4]; funext j; rw [jx_su_ne k4, jx_su_ne k3]
    have ef3 : chr o3 = chr o := by funext j; unfold chr; rw [zn 1 (by decide) (by decide), zn 0 (by decide) (by decide)]
    have h3 : Txo o3 := by unfold Txo at h ⊢; rw [zn 1 (by decide) (by decide), zn 0 (by decide) (by decide)]; exact h
    have fin : ∀ w, w = wW (chr o) p → wp_O_read_55 Q p o3 w := fun w hw => by
      have wb : 1 ≤ w ∧ w ≤ 5 := by rw [hw]; unfold wW; split <;> omega
      refine p_read55 (p := p + 1) h3 z4 (by omega) (by rw [zn 1 (by decide) (by decide)]; omega) wb (fun o' q1 q2 q3 => ?_)
      rw [ef3, hw] at q2 q3 ⊢
      refine hQ o' (fun k k2 k3 k4 => by rw [q1 k k2 k4, zn k k3 k4]) (by rw [q1 3 (by decide) (by decide), z3]) q2 q3
    have tR : jx_R (o3 3 0) := by rw [z3]; unfold wP; split <;> exact jx_inR (by decide) (by decide)
    refine ⟨tR, fun e => fin 1 ?_, fun e => fin 5 ?_⟩
    · rw [z3] at e; unfold wP at e; unfold wW
      by_cases c : chr o p = 43
      · rw [if_pos c] at e; exact absurd e (by decide)
      · rw [if_neg c]
    · rw [z3] at e; unfold wP at e; unfold wW
      by_cases c : chr o p = 43
      · rw [if_pos c]
      · rw [if_neg c] at e; exact absurd rfl e
  have y3 : ∀ t, jx_su o1 3 0 t 3 0 = t := fun t => jx_su_eq
  by_cases c : chr o p = 43
  · rw [if_pos c]
    have e := y3 1
    refine ⟨Or.inr rfl, by rw [e]; exact R_lit 1 (by decide), fun z => absurd (e.symm.trans z) (by decide), fun _ => go 1 (by unfold wP; rw [if_pos c]) (Or.inl c)⟩
  · rw [if_neg c]
    have e := y3 0
    refine ⟨Or.inl rfl, by rw [e]; exact R_lit 0 (by decide), fun _ => ?_, fun z => absurd e z⟩
    have w4 : jx_su o1 3 0 0 4 0 = p := by rw [jx_su_ne (by decide), x4]
    have wn : ∀ k, k ≠ 3 → k ≠ 4 → jx_su o1 3 0 0 k = o k := fun k k3 k4 => by rw [← xn k k4]; funext j; exact jx_su_ne k3
    have ef2 : chr (jx_su o1 3 0 0) = chr o := by funext j; unfold chr; rw [wn 1 (by decide) (by decide), wn 0 (by decide) (by decide)]
    have h2 : Txo (jx_su o1 3 0 0) := by unfold Txo at h ⊢; rw [wn 1 (by decide) (by decide), wn 0 (by decide) (by decide)]; exact h
    refine p_signIs h2 (by rw [w4]; exact p0) (by rw [w4]; omega) (by decide) (by decide) ?_
    rw [ef2, w4]
    by_cases c2 : chr o p = 45
    · rw [if_pos c2]
      exact c1 (go 0 (by unfold wP; rw [if_neg c]) (Or.inr c2))
    · rw [if_neg c2]
      have er : rdo (chr o) p = (0, p) := by unfold rdo; rw [if_neg (by omega)]
      rw [er] at hQ
      exact c0 (hQ _ (fun k _ k3 k4 => wn k k3 k4) (by rw [e]; unfold wP; rw [if_neg c]) w4 (fun z => absurd (show (0 : Int) = 1 from z) (by decide)))
