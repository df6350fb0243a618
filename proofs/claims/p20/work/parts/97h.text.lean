/-- a character of the text; 0 behind it -/
def chr (o : jx_St) (j : Int) : Int := if 0 ≤ j ∧ j < o 1 0 then o 0 j else 0
def Txo (o : jx_St) : Prop := 0 ≤ o 1 0 ∧ o 1 0 ≤ 60 ∧ ∀ j, 0 ≤ j → j < o 1 0 → 32 ≤ o 0 j ∧ o 0 j ≤ 126
theorem chr_bd {o : jx_St} (h : Txo o) (j : Int) : (chr o j = 0 ∨ (32 ≤ chr o j ∧ chr o j ≤ 126 ∧ 0 ≤ j ∧ j < o 1 0)) := by
  unfold chr
  by_cases c : 0 ≤ j ∧ j < o 1 0
  · rw [if_pos c]; have := h.2.2 j c.1 c.2; exact Or.inr ⟨this.1, this.2, c.1, c.2⟩
  · rw [if_neg c]; exact Or.inl rfl
theorem chr_R {o : jx_St} (h : Txo o) (j : Int) : jx_R (chr o j) := by
  rcases chr_bd h j with z | z
  · rw [z]; exact R_lit 0 (by decide)
  · exact jx_inR (by omega) (by omega)
theorem p_signIs {Q : Int → Prop} {o : jx_St} {s : Int} (h : Txo o) (p0 : 0 ≤ o 4 0) (p1 : o 4 0 ≤ 60) (s0 : 0 < s) (s1 : s ≤ 126) (hQ : Q (if chr o (o 4 0) = s then 1 else 0)) : wp_O_signIs Q o s := by
  have a0 := h.1
  have a1 := h.2.1
  have sR : jx_R s := jx_inR (by omega) (by omega)
  have pR : jx_R (o 4 0) := jx_inR (by omega) (by omega)
  refine ⟨pR, jx_inR (by omega) (by omega), fun q => ⟨pR, ?_⟩, fun q => ?_⟩
  · rw [jx_at_in p0 (by show o 4 0 < 60; omega)]
    have e : chr o (o 4 0) = o 0 (o 4 0) := by unfold chr; rw [if_pos ⟨p0, q⟩]
    rw [← e]
    refine ⟨chr_R h _, sR, fun y => ?_, fun y => ?_⟩
    · rw [if_pos y] at hQ; exact hQ
    · rw [if_neg y] at hQ; exact hQ
  · have e : chr o (o 4 0) = 0 := by unfold chr; rw [if_neg (by omega)]
    rw [e, if_neg (by omega)] at hQ
    exact hQ
def dg (c : Int) : Prop := 48 ≤ c ∧ c ≤ 57
theorem p_digit_t {Q : Int → Prop} {o : jx_St} (h : Txo o) (p0 : 0 ≤ o 4 0) (p1 : o 4 0 ≤ 60) (d : dg (chr o (o 4 0))) (hQ : Q 1) : wp_O_signIsDigit Q o := by
  have a0 := h.1
  have a1 := h.2.1
  have pR : jx_R (o 4 0) := jx_inR (by omega) (by omega)
  have hin : o 4 0 < o 1 0 := by
    rcases chr_bd h (o 4 0) with z | z
    · unfold dg at d; omega
    · omega
  have e : chr o (o 4 0) = o 0 (o 4 0) := by unfold chr; rw [if_pos ⟨p0, hin⟩]
  have eat : jx_at 60 (o 0) (o 4 0) = chr o (o 4 0) := by rw [jx_at_in p0 (by show o 4 0 < 60; omega), e]
  unfold wp_O_signIsDigit
  rw [eat]
  have cR := chr_R h (o 4 0)
  exact ⟨pR, jx_inR (by omega) (by omega), fun _ => ⟨pR, cR, fun z => absurd d.1 (by omega), fun _ => ⟨pR, cR, fun _ => hQ, fun z => absurd d.2 z⟩⟩, fun z => absurd hin z⟩
theorem p_digit_f {Q : Int → Prop} {o : jx_St} (h : Txo o) (p0 : 0 ≤ o 4 0) (p1 : o 4 0 ≤ 60) (d : ¬ dg (chr o (o 4 0))) (hQ : Q 0) : wp_O_signIsDigit Q o := by
  have a0 := h.1
  have a1 := h.2.1
  have pR : jx_R (o 4 0) := jx_inR (by omega) (by omega)
  refine ⟨pR, jx_inR (by omega) (by omega), fun q => ⟨pR, ?_⟩, fun _ => hQ⟩
  have e : chr o (o 4 0) = o 0 (o 4 0) := by unfold chr; rw [if_pos ⟨p0, q⟩]
  have eat : jx_at 60 (o 0) (o 4 0) = chr o (o 4 0) := by rw [jx_at_in p0 (by show o 4 0 < 60; omega), e]
  rw [eat]
  have cR := chr_R h (o 4 0)
  exact ⟨cR, fun _ => hQ, fun z => ⟨pR, cR, fun y => absurd ⟨by omega, y⟩ d, fun _ => hQ⟩⟩
/-- a number, and where it ends -/
def nm (c : Int → Int) (p : Int) : Int × Int := if 48 ≤ c (p + 1) ∧ c (p + 1) ≤ 57 then ((c p - 48) * 10 + c (p + 1) - 48, p + 2) else (c p - 48, p + 1)
theorem nm_bd {o : jx_St} (h : Txo o) {p : Int} (d : dg (chr o p)) : 0 ≤ (nm (chr o) p).1 ∧ (nm (chr o) p).1 ≤ 99 ∧ p < (nm (chr o) p).2 ∧ (nm (chr o) p).2 ≤ o 1 0 ∧ 0 ≤ p := by
  unfold dg at d
  have h1 : 0 ≤ p ∧ p < o 1 0 := by rcases chr_bd h p with z | z <;> omega
  unfold nm
  split
  · next e =>
    have h2 : p + 1 < o 1 0 := by rcases chr_bd h (p + 1) with z | z <;> omega
    dsimp only; omega
  · dsimp only; omega
theorem p_readNumber_f {Q : Int → jx_St → Prop} {o : jx_St} {i : Int} (h : Txo o) (p0 : 0 ≤ o 4 0) (p1 : o 4 0 ≤ 60) (d : ¬ dg (chr o (o 4 0))) (hQ : Q 0 o) : wp_O_readNumber Q o i := p_digit_f h p0 p1 d (c0 hQ)
theorem p_readNumber_t {Q : Int → jx_St → Prop} {o : jx_St} {i : Int} (h : Txo o) (p0 : 0 ≤ o 4 0) (p1 : o 4 0 ≤ 60) (i0 : 0 ≤ i ∧ i < 5) (d : dg (chr o (o 4 0))) (hQ : Q 1 (jx_su (jx_su o 4 0 (nm (chr o) (o 4 0)).2) 2 i (nm (chr o) (o 4 0)).1)) : wp_O_readNumber Q o i := by
  have a0 := h.1
  have a1 := h.2.1
  have hb := nm_bd h d
  have pR : jx_R (o 4 0) := jx_inR (by omega) (by omega)
  have iR : jx_R i := jx_inR (by omega) (by omega)
  have hin : o 4 0 < o 1 0 := by unfold nm at hb; split at hb <;> (dsimp only at hb; omega)
  have e : chr o (o 4 0) = o 0 (o 4 0) := by unfold chr; rw [if_pos ⟨p0, hin⟩]
  have eat : jx_at 60 (o 0) (o 4 0) = chr o (o 4 0) := by rw [jx_at_in p0 (by show o 4 0 < 60; omega), e]
  refine p_digit_t h p0 p1 d (c1 ⟨pR, ?_⟩)
  rw [eat]
  -- one further
  generalize ho : jx_su o 4 0 (o 4 0 + 1) = o2
  have x4 : o2 4 0 = o 4 0 + 1 := by rw [← ho, jx_su_eq]
  have xn : ∀ k, k ≠ 4 → o2 k = o k := fun k hk => by rw [← ho]; funext j; exact jx_su_ne hk
  have ec : ∀ j, chr o2 j = chr o j := fun j => by unfold chr; rw [xn 1 (by decide), xn 0 (by decide)]
  have h2 : Txo o2 := by unfold Txo at h ⊢; rw [xn 1 (by decide), xn 0 (by decide)]; exact h
  have q4 : ∀ t, jx_su (jx_su o 4 0 (o 4 0 + 1)) 4 0 t = jx_su o 4 0 t := fun t => by
    funext k j
    simp only [jx_su]
    by_cases c : k = 4 ∧ j = 0
    · rw [if_pos c, if_pos c]
    · rw [if_neg c, if_neg c, if_neg c]
  by_cases d2 : 48 ≤ chr o (o 4 0 + 1) ∧ chr o (o 4 0 + 1) ≤ 57
  · have hn : nm (chr o) (o 4 0) = ((chr o (o 4 0) - 48) * 10 + chr o (o 4 0 + 1) - 48, o 4 0 + 2) := by unfold nm; rw [if_pos d2]
    rw [hn] at hQ
    have hin2 : o 4 0 + 1 < o 1 0 := by rcases chr_bd h (o 4 0 + 1) with z | z <;> omega
    have eat2 : jx_at 60 (o2 0) (o2 4 0) = chr o (o 4 0 + 1) := by
      rw [x4, jx_at_in (by omega) (by show o 4 0 + 1 < 60; omega), xn 0 (by decide)]
      unfold chr; rw [if_pos ⟨by omega, hin2⟩]
    refine p_digit_t h2 (by rw [x4]; omega) (by rw [x4]; omega) (by rw [ec, x4]; exact d2) (c1 ⟨by rw [x4]; exact jx_inR (by omega) (by omega), iR, ?_⟩)
    rw [eat2, x4, jx_se_in i0.1 i0.2, ← ho, q4, show o 4 0 + 1 + 1 = o 4 0 + 2 by omega]
    exact hQ
  · have hn : nm (chr o) (o 4 0) = (chr o (o 4 0) - 48, o 4 0 + 1) := by unfold nm; rw [if_neg d2]
    rw [hn] at hQ
    refine p_digit_f h2 (by rw [x4]; omega) (by rw [x4]; omega) (by rw [ec, x4]; exact d2) (c0 ⟨iR, ?_⟩)
    rw [jx_se_in i0.1 i0.2, ← ho]
    exact hQ
/-- where the numbers of an order begin -/
def pk (c : Int → Int) (p : Int) : Nat → Int
  | 0 => p
  | k + 1 => (nm c (pk c p k)).2 + 1
def nu (c : Int → Int) (p : Int) (k : Int) : Int := (nm c (pk c p k.toNat)).1
def dl (w i : Int) : Int := if i = w - 1 then 59 else 44
/-- what becomes of the reading, from a number on: whether it is right, and where it ends -/
def rdr (c : Int → Int) (p w : Int) : Nat → Int → Int × Int
  | 0, _ => (1, pk c p w.toNat)
  | k + 1, i => if 48 ≤ c (pk c p i.toNat) ∧ c (pk c p i.toNat) ≤ 57 then (if c (nm c (pk c p i.toNat)).2 = dl w i then rdr c p w k (i + 1) else (0, (nm c (pk c p i.toNat)).2)) else (0, pk c p i.toNat)
