/-! ===== the pure part: the best way to split ===== -/
def hpF (h : Int → Int) (a : Int) : Nat → Int
  | 0 => -1
  | k + 1 => ar (hpF h a k) (h (a + (k : Int)))
theorem hpF_same {h g : Int → Int} {a : Int} (k : Nat) (hh : ∀ j : Int, a ≤ j → j < a + (k : Int) → h j = g j) : hpF h a k = hpF g a k := by
  induction k with
  | zero => rfl
  | succ k ih =>
    simp only [hpF]
    rw [ih (fun j j0 j1 => hh j j0 (by omega)), hh _ (by omega) (by omega)]
theorem hpF_vbo {h : Int → Int} {a : Int} (k : Nat) (hh : ∀ j : Int, a ≤ j → j < a + (k : Int) → vbo (h j)) : vbo (hpF h a k) := by
  induction k with
  | zero => exact Or.inl rfl
  | succ k ih => exact ar_vb (ih (fun j j0 j1 => hh j j0 (by omega))) (hh _ (by omega) (by omega))
theorem p_hullOfPart {Q : Int → Prop} {ρ : jx_St} {a b : Int} (h0 : 0 ≤ a) (h1 : a ≤ b) (h2 : b ≤ 5) (hv : ∀ j, a ≤ j → j < b → vbo (ρ 11 j)) (h : Q (hpF (ρ 11) a (b - a).toNat)) : wp_C_hullOfPart Q ρ a b := by
  refine jx_loop (fun v => a ≤ v.2 ∧ v.2 ≤ b ∧ v.1 = hpF (ρ 11) a (v.2 - a).toNat) (fun v => (b - v.2).toNat) (fun B v hI hB => ?_) ⟨Int.le_refl _, h1, by show -1 = hpF (ρ 11) a (a - a).toNat; rw [show (a - a).toNat = 0 by omega]; rfl⟩
  obtain ⟨x, i⟩ := v
  obtain ⟨a1, a2, a3⟩ := hI
  dsimp only at a1 a2 a3 ⊢
  refine ⟨jx_inR (by omega) (by omega), jx_inR (by omega) (by omega), fun q => ⟨jx_inR (by omega) (by omega), ?_⟩, fun q => ?_⟩
  · have hi := hv i a1 q
    rw [jx_at_in (by omega) (by omega)]
    have hx : vbo x := by rw [a3]; exact hpF_vbo _ (fun j j0 j1 => hv j j0 (by omega))
    refine p_around hx.R hi.R (hB _ ⟨by show a ≤ i + 1; omega, by show i + 1 ≤ b; omega, ?_⟩ (by show (b - (i + 1)).toNat < (b - i).toNat; omega))
    dsimp only
    rw [show (i + 1 - a).toNat = (i - a).toNat + 1 by omega]
    simp only [hpF]
    rw [← a3, Int.toNat_of_nonneg (by omega), show a + (i - a) = i by omega]
  · have ei : i = b := by omega
    rw [a3, ei]
    exact h
theorem coF_bd {a b : Int} (ha : vbo a) (hb : vbo b) : 0 ≤ coF a b ∧ coF a b ≤ 9801 := by
  unfold coF
  split
  · exact ⟨by decide, by decide⟩
  · next c =>
    unfold toF at c
    split at c
    · exact absurd rfl c
    · next n1 =>
      split at c
      · next t =>
        have ha := ha.resolve_left (fun q => n1 (Or.inl q))
        have hb := hb.resolve_left (fun q => n1 (Or.inr q))
        obtain ⟨p0, _, p1, p2, p3, p4⟩ := ha
        obtain ⟨q0, _, q1, q2, q3, q4⟩ := hb
        have a0 := bs_ge a 0
        have a1 := bs_ge a 1
        have b0 := bs_ge b 0
        have b1 := bs_ge b 1
        have x1 : 0 ≤ min (bs a 2) (bs b 2) - max (bs a 0) (bs b 0) := by omega
        have x2 : min (bs a 2) (bs b 2) - max (bs a 0) (bs b 0) ≤ 99 := by omega
        have y1 : 0 ≤ min (bs a 3) (bs b 3) - max (bs a 1) (bs b 1) := by omega
        have y2 : min (bs a 3) (bs b 3) - max (bs a 1) (bs b 1) ≤ 99 := by omega
        exact ⟨Int.mul_nonneg x1 y1, Int.le_trans (Int.mul_le_mul x2 y2 y1 (by decide)) (by decide)⟩
      · exact absurd rfl c
def wS (σ : jx_St) (n ax : Int) : Int → Int := srF (fun x => kyF (hv σ x (σ 2 n)) ax) (th σ n) 5
def wH (σ : jx_St) (n ax : Int) (j : Int) : Int := hv σ (wS σ n ax j) (σ 2 n)
def wA (σ : jx_St) (n w : Int) : Int := hpF (wH σ n (w / 2)) 0 (2 + w % 2).toNat
def wB (σ : jx_St) (n w : Int) : Int := hpF (wH σ n (w / 2)) (2 + w % 2) (5 - (2 + w % 2)).toNat
def bwS (σ : jx_St) (n : Int) : Nat → Int × Int × Int
  | 0 => (-1, 0, 0)
  | w + 1 => if (bwS σ n w).1 = -1 ∨ coF (wA σ n w) (wB σ n w) < (bwS σ n w).2.1 ∨ (coF (wA σ n w) (wB σ n w) = (bwS σ n w).2.1 ∧ arF (wA σ n w) + arF (wB σ n w) < (bwS σ n w).2.2) then ((w : Int), coF (wA σ n w) (wB σ n w), arF (wA σ n w) + arF (wB σ n w)) else bwS σ n w
theorem wAB_vbo {σ : jx_St} {n w : Int} (hw : 0 ≤ w) (hh : ∀ k, 0 ≤ k → k < 5 → vbo (hv σ (th σ n k) (σ 2 n))) : vbo (wA σ n w) ∧ vbo (wB σ n w) := by
  have key : ∀ ax j, 0 ≤ j → j < 5 → vbo (wH σ n ax j) := fun ax j j0 j1 => by
    obtain ⟨i, i0, i1, e⟩ := srF_mem (key := fun x => kyF (hv σ x (σ 2 n)) ax) (row := th σ n) (k := 5) j0 j1
    unfold wH wS
    rw [e]
    exact hh i i0 i1
  exact ⟨hpF_vbo _ (fun j j0 j1 => key _ j j0 (by omega)), hpF_vbo _ (fun j j0 j1 => key _ j (by omega) (by omega))⟩
theorem bwS_bd {σ : jx_St} {n : Int} (hh : ∀ k, 0 ≤ k → k < 5 → vbo (hv σ (th σ n k) (σ 2 n))) (w : Nat) : -1 ≤ (bwS σ n w).1 ∧ (bwS σ n w).1 < (w : Int) ∧ (0 < w → 0 ≤ (bwS σ n w).1) ∧ 0 ≤ (bwS σ n w).2.1 ∧ (bwS σ n w).2.1 ≤ 9801 ∧ 0 ≤ (bwS σ n w).2.2 ∧ (bwS σ n w).2.2 ≤ 19602 := by
  induction w with
  | zero => exact ⟨Int.le_refl _, by show (-1 : Int) < ((0 : Nat) : Int); omega, fun q => absurd q (by decide), show (0 : Int) ≤ 0 by decide, show (0 : Int) ≤ 9801 by decide, show (0 : Int) ≤ 0 by decide, show (0 : Int) ≤ 19602 by decide⟩
  | succ w ih =>
    obtain ⟨va, vb⟩ := wAB_vbo (w := (w : Int)) (by omega) hh
    have c := coF_bd va vb
    have a := arF_bd va
    have b := arF_bd vb
    simp only [bwS]
    split
    · dsimp only
      exact ⟨by omega, by omega, fun _ => by omega, by omega, by omega, by omega, by omega⟩
    · next q => exact ⟨ih.1, by omega, fun _ => by omega, ih.2.2.2⟩
theorem ax_ok {w : Int} (h0 : 0 ≤ w) (h1 : w < 4) : jx_shr w 1 = w / 2 ∧ 2 + jx_and w 1 = 2 + w % 2 := by
  have e1 := jx_shr_k h0 (by omega) 1 1 (by decide)
  have e2 := jx_and_k h0 (by omega) 1 1 (by decide) (by decide)
  rw [e1, e2]
  exact ⟨rfl, rfl⟩
theorem p_bestWay {Q : Int → jx_St → Prop} {ρ σ : jx_St} {n : Int} (hn : nd n) (hl : jx_R (σ 2 n)) (hx : ∀ k, 0 ≤ k → k < 5 → tv (th σ n k) (σ 2 n)) (hh : ∀ k, 0 ≤ k → k < 5 → vbo (hv σ (th σ n k) (σ 2 n))) (h : ∀ ρ' : jx_St, (∀ k, k ≠ 10 → k ≠ 11 → ρ' k = ρ k) → Q (bwS σ n 4).1 ρ') : wp_C_bestWay Q ρ σ n := by
  refine jx_loop (fun v => (∀ k, k ≠ 10 → k ≠ 11 → v.1 k = ρ k) ∧ 0 ≤ v.2.2.2.2 ∧ v.2.2.2.2 ≤ 4 ∧ (v.2.1, v.2.2.1, v.2.2.2.1) = bwS σ n v.2.2.2.2.toNat) (fun v => (4 - v.2.2.2.2).toNat) (fun B v hI hB => ?_) ⟨fun _ _ _ => rfl, Int.le_refl _, by show (0 : Int) ≤ 4; decide, rfl⟩
  obtain ⟨ρ1, bt, bc, ba, w⟩ := v
  obtain ⟨a1, a2, a3, a4⟩ := hI
  dsimp only at a1 a2 a3 a4 ⊢
  have ew : ((w.toNat : Nat) : Int) = w := Int.toNat_of_nonneg a2
  have bd := bwS_bd hh w.toNat
  rw [← a4] at bd
  dsimp only at bd
  obtain ⟨d1, d2, _, d3, d4, d5, d6⟩ := bd
  refine ⟨jx_inR (by omega) (by omega), fun q => ?_, fun q => ?_⟩
  · obtain ⟨x1, x2⟩ := ax_ok a2 q
    obtain ⟨va, vb⟩ := wAB_vbo (w := w) a2 hh
    have c := coF_bd va vb
    have a := arF_bd va
    have b := arF_bd vb
    show wp_C_arrange _ ρ1 σ n (jx_shr w 1)
    rw [x1]
    refine p_arrange hn hl hx (fun ρ2 r1 r2 => ?_)
    have hr : ∀ j, 0 ≤ j → j < 5 → ρ2 11 j = wH σ n (w / 2) j := fun j j0 j1 => (r2 j j0 j1).2
    have hvv : ∀ j, 0 ≤ j → j < 5 → vbo (ρ2 11 j) := fun j j0 j1 => by
      obtain ⟨i, i0, i1, e⟩ := srF_mem (key := fun x => kyF (hv σ x (σ 2 n)) (w / 2)) (row := th σ n) (k := 5) j0 j1
      rw [hr j j0 j1]
      unfold wH wS
      rw [e]
      exact hh i i0 i1
    show wp_C_hullOfPart _ ρ2 0 (2 + jx_and w 1)
    rw [x2]
    refine p_hullOfPart (Int.le_refl _) (by omega) (by omega) (fun j j0 j1 => hvv j j0 (by omega)) ?_
    show wp_C_hullOfPart _ ρ2 (2 + jx_and w 1) 5
    rw [x2]
    refine p_hullOfPart (by omega) (by omega) (Int.le_refl _) (fun j j0 j1 => hvv j (by omega) j1) ?_
    have eA : hpF (ρ2 11) 0 (2 + w % 2 - 0).toNat = wA σ n w := by
      unfold wA
      rw [show 2 + w % 2 - 0 = 2 + w % 2 by omega]
      exact hpF_same _ (fun j j0 j1 => hr j j0 (by omega))
    have eB : hpF (ρ2 11) (2 + w % 2) (5 - (2 + w % 2)).toNat = wB σ n w := by
      unfold wB
      exact hpF_same _ (fun j j0 j1 => hr j (by omega) (by omega))
    rw [eA, eB]
    have fr : ∀ k, k ≠ 10 → k ≠ 11 → ρ2 k = ρ k := fun k k1 k2 => by rw [r1 k k1 k2, a1 k k1 k2]
    have yes : (bt = -1 ∨ coF (wA σ n w) (wB σ n w) < bc ∨ (coF (wA σ n w) (wB σ n w) = bc ∧ arF (wA σ n w) + arF (wB σ n w) < ba)) → wp_C_bestWay_96 Q σ n B ρ2 w (coF (wA σ n w) (wB σ n w)) (arF (wA σ n w) + arF (wB σ n w)) := by
      intro cc
      refine hB _ ⟨fr, by show 0 ≤ w + 1; omega, by show w + 1 ≤ 4; omega, ?_⟩ (by show (4 - (w + 1)).toNat < (4 - w).toNat; omega)
      dsimp only
      rw [show (w + 1).toNat = w.toNat + 1 by omega]
      simp only [bwS, ← a4, ew]
      rw [if_pos cc]
    have no : ¬ (bt = -1 ∨ coF (wA σ n w) (wB σ n w) < bc ∨ (coF (wA σ n w) (wB σ n w) = bc ∧ arF (wA σ n w) + arF (wB σ n w) < ba)) → wp_C_bestWay_106 Q σ n B ρ2 bt bc ba w := by
      intro cc
      refine hB _ ⟨fr, by show 0 ≤ w + 1; omega, by show w + 1 ≤ 4; omega, ?_⟩ (by show (4 - (w + 1)).toNat < (4 - w).toNat; omega)
      dsimp only
      rw [show (w + 1).toNat = w.toNat + 1 by omega]
      simp only [bwS, ← a4, ew]
      rw [if_neg cc]
    refine p_common va.R vb.R (p_area va.R (p_area vb.R ⟨jx_inR (by omega) (by omega), fun c1 => yes (Or.inl c1), fun c1 => ⟨jx_inR (by omega) (by omega), jx_inR (by omega) (by omega), fun c2 => yes (Or.inr (Or.inl c2)), fun c2 => ⟨jx_inR (by omega) (by omega), jx_inR (by omega) (by omega), fun c3 => ⟨jx_inR (by omega) (by omega), jx_inR (by omega) (by omega), fun c4 => yes (Or.inr (Or.inr ⟨c3, c4⟩)), fun c4 => no (by omega)⟩, fun c3 => no (by omega)⟩⟩⟩))
  · have e : w = 4 := by omega
    subst e
    have e : bt = (bwS σ n 4).1 := by
      have := congrArg Prod.fst a4
      exact this
    rw [e]
    exact h ρ1 a1
