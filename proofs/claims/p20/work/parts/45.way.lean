/-! ===== the pure part: the way of a thing down ===== -/
def lgs (hs xs : Int → Int) (b : Int) : Nat → Int × Int × Int
  | 0 => (-1, 0, 0)
  | k + 1 => if (lgs hs xs b k).1 = -1 ∨ arF (ar (hs (k : Int)) b) - arF (hs (k : Int)) < (lgs hs xs b k).2.1 ∨ (arF (ar (hs (k : Int)) b) - arF (hs (k : Int)) = (lgs hs xs b k).2.1 ∧ arF (hs (k : Int)) < (lgs hs xs b k).2.2) then (xs (k : Int), arF (ar (hs (k : Int)) b) - arF (hs (k : Int)), arF (hs (k : Int))) else lgs hs xs b k
theorem lgs_bd {hs xs : Int → Int} {b : Int} (hb : vbo b) (n : Nat) (hh : ∀ k : Int, 0 ≤ k → k < (n : Int) → vbo (hs k)) : -9801 ≤ (lgs hs xs b n).2.1 ∧ (lgs hs xs b n).2.1 ≤ 9801 ∧ 0 ≤ (lgs hs xs b n).2.2 ∧ (lgs hs xs b n).2.2 ≤ 9801 := by
  induction n with
  | zero => exact ⟨show (-9801 : Int) ≤ 0 by decide, show (0 : Int) ≤ 9801 by decide, show (0 : Int) ≤ 0 by decide, show (0 : Int) ≤ 9801 by decide⟩
  | succ k ih =>
    have h1 := hh (k : Int) (by omega) (by omega)
    have h2 := arF_bd h1
    have h3 := arF_bd (ar_vb h1 hb)
    have ih := ih (fun j a c => hh j a (by omega))
    simp only [lgs]
    split
    · dsimp only; omega
    · exact ih
theorem lgs_x {hs xs : Int → Int} {b : Int} (n : Nat) : (lgs hs xs b n).1 = -1 ∨ ∃ k : Int, 0 ≤ k ∧ k < (n : Int) ∧ (lgs hs xs b n).1 = xs k := by
  induction n with
  | zero => exact Or.inl rfl
  | succ k ih =>
    simp only [lgs]
    split
    · exact Or.inr ⟨(k : Int), by omega, by omega, rfl⟩
    · rcases ih with h | ⟨j, h0, h1, h2⟩
      · exact Or.inl h
      · exact Or.inr ⟨j, h0, by omega, h2⟩
theorem lgs_ne {hs xs : Int → Int} {b : Int} (n : Nat) (h0 : 0 < n) (hx : ∀ k : Int, 0 ≤ k → k < (n : Int) → xs k ≠ -1) : (lgs hs xs b n).1 ≠ -1 := by
  cases n with
  | zero => omega
  | succ k =>
    simp only [lgs]
    split
    · exact hx (k : Int) (by omega) (by omega)
    · next h => intro e; exact h (Or.inl e)
/-- the next node on the way of a box, from a node -/
def lgF (σ : jx_St) (n b : Int) : Int := (lgs (fun k => σ 4 (th σ n k)) (fun k => th σ n k) b (σ 3 n).toNat).1
theorem p_leastGreater {Q : Int → Prop} {σ : jx_St} {n b : Int} (hn : nd n) (hs : 0 ≤ σ 3 n ∧ σ 3 n ≤ 5) (hx : ∀ k, 0 ≤ k → k < σ 3 n → nd (th σ n k) ∧ vbo (σ 4 (th σ n k))) (hb : vbo b) (h : Q (lgF σ n b)) : wp_T_leastGreater Q σ n b := by
  refine jx_loop (fun v => 0 ≤ v.2.2.2 ∧ v.2.2.2 ≤ σ 3 n ∧ (v.1, v.2.1, v.2.2.1) = lgs (fun k => σ 4 (th σ n k)) (fun k => th σ n k) b v.2.2.2.toNat) (fun v => (σ 3 n - v.2.2.2).toNat) (fun B v hI hB => ?_) ⟨Int.le_refl _, hs.1, rfl⟩
  obtain ⟨bt, gr, ba, j⟩ := v
  obtain ⟨a1, a2, a3⟩ := hI
  dsimp only at a1 a2 a3 ⊢
  have hj : ((j.toNat : Nat) : Int) = j := Int.toNat_of_nonneg a1
  have bd := lgs_bd (hs := fun k => σ 4 (th σ n k)) (xs := fun k => th σ n k) hb j.toNat (fun k k0 k1 => (hx k k0 (by omega)).2)
  have bx := lgs_x (hs := fun k => σ 4 (th σ n k)) (xs := fun k => th σ n k) (b := b) j.toNat
  rw [← a3] at bd bx
  dsimp only at bd bx
  have hbt : jx_R bt := by
    rcases bx with e | ⟨k, k0, k1, e⟩
    · rw [e]; exact jx_inR (by decide) (by decide)
    · rw [e]; exact (hx k k0 (by omega)).1.R
  refine p_sizeOf hn ⟨jx_inR (by omega) (by omega), jx_inR (by omega) (by omega), fun q => ?_, fun q => ?_⟩
  · obtain ⟨x1, x2⟩ := hx j a1 q
    have b1 := arF_bd x2
    have b2 := arF_bd (ar_vb x2 hb)
    have key : ∀ (r : Int × Int × Int), r = lgs (fun k => σ 4 (th σ n k)) (fun k => th σ n k) b (j.toNat + 1) → B (r.1, r.2.1, r.2.2, j + 1) := by
      intro r hr
      refine hB _ ⟨by show 0 ≤ j + 1; omega, by show j + 1 ≤ _; omega, ?_⟩ (by show (σ 3 n - (j + 1)).toNat < (σ 3 n - j).toNat; omega)
      dsimp only
      rw [show (j + 1).toNat = j.toNat + 1 by omega]
      exact hr
    have yes : (bt = -1 ∨ arF (ar (σ 4 (th σ n j)) b) - arF (σ 4 (th σ n j)) < gr ∨ (arF (ar (σ 4 (th σ n j)) b) - arF (σ 4 (th σ n j)) = gr ∧ arF (σ 4 (th σ n j)) < ba)) → wp_T_leastGreater_88 Q σ n b B j (th σ n j) (arF (σ 4 (th σ n j))) (arF (ar (σ 4 (th σ n j)) b) - arF (σ 4 (th σ n j))) := by
      intro c
      refine key (th σ n j, arF (ar (σ 4 (th σ n j)) b) - arF (σ 4 (th σ n j)), arF (σ 4 (th σ n j))) ?_
      simp only [lgs, ← a3, hj]
      rw [if_pos c]
    have no : ¬ (bt = -1 ∨ arF (ar (σ 4 (th σ n j)) b) - arF (σ 4 (th σ n j)) < gr ∨ (arF (ar (σ 4 (th σ n j)) b) - arF (σ 4 (th σ n j)) = gr ∧ arF (σ 4 (th σ n j)) < ba)) → wp_T_leastGreater_99 Q σ n b B bt gr ba j := by
      intro c
      refine key (bt, gr, ba) ?_
      simp only [lgs, ← a3, hj]
      rw [if_neg c]
    refine p_thingAt hn (by omega) ⟨x1.R, ?_⟩
    rw [jx_at_in x1.1 x1.2]
    refine p_area x2.R (p_around x2.R hb.R (p_area (ar_R x2.R hb.R) ⟨hbt, fun c => yes (Or.inl c), fun c => ⟨jx_inR (by omega) (by omega), jx_inR (by omega) (by omega), fun c2 => yes (Or.inr (Or.inl c2)), fun c2 => ⟨jx_inR (by omega) (by omega), jx_inR (by omega) (by omega), fun c3 => ⟨jx_inR (by omega) (by omega), jx_inR (by omega) (by omega), fun c4 => yes (Or.inr (Or.inr ⟨c3, c4⟩)), fun c4 => no (by omega)⟩, fun c3 => no (by omega)⟩⟩⟩))
  · have ej : j = σ 3 n := by omega
    subst ej
    have e : bt = lgF σ n b := by unfold lgF; rw [← a3]
    rw [e]
    exact h
/-- the node of a level on the way of a box, from a node on, in so many steps -/
def dsc (σ : jx_St) (b l : Int) : Nat → Int → Int
  | 0, n => n
  | k + 1, n => if σ 2 n ≤ l then n else dsc σ b l k (lgF σ n b)
theorem lgF_child {σ : jx_St} {n b : Int} (hS : Sh σ) (hn : lvn σ n) (hl : 0 < σ 2 n) (h1 : 1 ≤ σ 3 n) : ∃ k, 0 ≤ k ∧ k < σ 3 n ∧ lgF σ n b = th σ n k := by
  have hs := hS.1 n hn
  have hne : lgF σ n b ≠ -1 := lgs_ne _ (by omega) (fun k k0 k1 => by
    have := ((hS.2.1 n k hn k0 (by omega)).2 hl).1.1.1
    show th σ n k ≠ -1
    omega)
  rcases lgs_x (hs := fun k => σ 4 (th σ n k)) (xs := fun k => th σ n k) (b := b) (σ 3 n).toNat with e | ⟨k, k0, k1, e⟩
  · exact absurd e hne
  · exact ⟨k, k0, by omega, e⟩
theorem dsc_ok {σ : jx_St} {b l : Int} (hS : Sh σ) (h1 : ∀ m, lvn σ m → 0 < σ 2 m → 1 ≤ σ 3 m) (hl : 0 ≤ l) : ∀ (k : Nat) (n : Int), lvn σ n → l ≤ σ 2 n → σ 2 n - l ≤ (k : Int) → lvn σ (dsc σ b l k n) ∧ σ 2 (dsc σ b l k n) = l := by
  intro k
  induction k with
  | zero => intro n hn h2 h3; exact ⟨hn, by show σ 2 n = l; omega⟩
  | succ k ih =>
    intro n hn h2 h3
    simp only [dsc]
    split
    · exact ⟨hn, by omega⟩
    · next c =>
      obtain ⟨j, j0, j1, e⟩ := lgF_child (b := b) hS hn (by omega) (h1 n hn (by omega))
      obtain ⟨c1, c2, _⟩ := (hS.2.1 n j hn j0 j1).2 (by omega)
      rw [e]
      exact ih _ c1 (by omega) (by omega)
theorem p_nodeFor {Q : Int → Prop} {σ : jx_St} {b l : Int} (hS : Sh σ) (hh : ∀ m, lvn σ m → vbo (σ 4 m)) (h1 : ∀ m, lvn σ m → 0 < σ 2 m → 1 ≤ σ 3 m) (hr : lvn σ (σ 7 0)) (hl : 0 ≤ l ∧ l ≤ σ 2 (σ 7 0)) (hb : vbo b) (h : Q (dsc σ b l 8 (σ 7 0))) : wp_T_nodeFor Q σ b l := by
  have r3 := (hS.1 _ hr).2.2
  refine jx_loop (fun v => lvn σ v.1 ∧ 0 ≤ v.2 ∧ v.2 ≤ 3 ∧ l ≤ σ 2 v.1 ∧ σ 2 v.1 + v.2 ≤ 3 ∧ dsc σ b l (8 - v.2).toNat v.1 = dsc σ b l 8 (σ 7 0)) (fun v => (8 - v.2).toNat) (fun B v hI hB => ?_) ⟨hr, Int.le_refl _, show (0 : Int) ≤ 3 by decide, hl.2, by show σ 2 (σ 7 0) + 0 ≤ 3; omega, rfl⟩
  obtain ⟨n, st⟩ := v
  obtain ⟨a1, a2, a3, a4, a5, a6⟩ := hI
  dsimp only at a1 a2 a3 a4 a5 a6 ⊢
  have a7 := a1.2
  have ek : (8 - st).toNat = (8 - (st + 1)).toNat + 1 := by omega
  rw [ek] at a6
  simp only [dsc] at a6
  refine ⟨jx_inR (by omega) (by omega), fun _ => p_levelOf a1.1 ⟨jx_inR (by omega) (by omega), jx_inR (by omega) (by omega), fun q => ?_, fun q => ?_⟩, fun q => absurd (by omega) q⟩
  · rw [if_pos q] at a6
    rw [a6]
    exact h
  · rw [if_neg q] at a6
    have hs := hS.1 n a1
    obtain ⟨j, j0, j1, e⟩ := lgF_child (b := b) hS a1 (by omega) (h1 n a1 (by omega))
    obtain ⟨c1, c2, _⟩ := (hS.2.1 n j a1 j0 j1).2 (by omega)
    refine p_leastGreater a1.1 ⟨hs.1, hs.2.1⟩ (fun k k0 k1 => ?_) hb (hB (lgF σ n b, st + 1) ⟨?_, by show 0 ≤ st + 1; omega, ?_, ?_, ?_, a6⟩ (by show (8 - (st + 1)).toNat < (8 - st).toNat; omega))
    · have := (hS.2.1 n k a1 k0 k1).2 (by omega)
      exact ⟨this.1.1, hh _ this.1⟩
    · show lvn σ (lgF σ n b); rw [e]; exact c1
    · show st + 1 ≤ 3; omega
    · show l ≤ σ 2 (lgF σ n b); rw [e]; omega
    · show σ 2 (lgF σ n b) + (st + 1) ≤ 3; rw [e]; omega
