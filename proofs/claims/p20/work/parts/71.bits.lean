/-! ===== the pure part: the levels that had a court ===== -/
def bt (s l : Int) : Int := jx_and (jx_shr s l) 1
def unc (s : Int) : Int := (if bt s 0 = 0 then 1 else 0) + (if bt s 1 = 0 then 1 else 0) + (if bt s 2 = 0 then 1 else 0) + (if bt s 3 = 0 then 1 else 0)
set_option maxRecDepth 100000 in
theorem bt_fin : ∀ a : Fin 16, ∀ b : Fin 4, bt ((a.val : Nat) : Int) ((b.val : Nat) : Int) = 0 → 0 ≤ jx_or ((a.val : Nat) : Int) (jx_shl 1 ((b.val : Nat) : Int)) ∧ jx_or ((a.val : Nat) : Int) (jx_shl 1 ((b.val : Nat) : Int)) < 16 ∧ unc (jx_or ((a.val : Nat) : Int) (jx_shl 1 ((b.val : Nat) : Int))) = unc ((a.val : Nat) : Int) - 1 := by decide
theorem bt_or {s l : Int} (s0 : 0 ≤ s) (s1 : s < 16) (l0 : 0 ≤ l) (l1 : l < 4) (h : bt s l = 0) : 0 ≤ jx_or s (jx_shl 1 l) ∧ jx_or s (jx_shl 1 l) < 16 ∧ unc (jx_or s (jx_shl 1 l)) = unc s - 1 := by
  have := bt_fin ⟨s.toNat, by omega⟩ ⟨l.toNat, by omega⟩
  simp only [Int.toNat_of_nonneg s0, Int.toNat_of_nonneg l0] at this
  exact this h
theorem unc_bd (s : Int) : 0 ≤ unc s ∧ unc s ≤ 4 := by
  unfold unc
  split <;> split <;> split <;> split <;> omega
theorem bt_R (s l : Int) : jx_R (bt s l) := rr_and _ _
theorem p_courtIsDue {Q : Int → Prop} {ρ σ : jx_St} {P : List (Int × Int)} {E : List Int} {n : Int} (hW : Ws σ P E) (hn : lvn σ n) (h : Q (if n ≠ σ 7 0 ∧ bt (ρ 5 0) (σ 2 n) = 0 then 1 else 0)) : wp_C_courtIsDue Q ρ σ n := by
  refine ⟨hn.1.R, hW.1.1.1.R, fun q => ?_, fun q => p_levelOf hn.1 ⟨rr_and _ _, fun z => ?_, fun z => ?_⟩⟩
  · rw [if_neg (fun z => z.1 q)] at h; exact h
  · rw [if_pos ⟨q, z⟩] at h; exact h
  · rw [if_neg (fun y => z y.2)] at h; exact h
/-- what waits, as a list, the next one first -/
def wtl (ρ : jx_St) : Nat → List (Int × Int)
  | 0 => []
  | k + 1 => (ρ 2 (k : Int), ρ 3 (k : Int)) :: wtl ρ k
theorem wtl_same {ρ ρ' : jx_St} (k : Nat) (h : ∀ j : Int, 0 ≤ j → j < (k : Int) → ρ' 2 j = ρ 2 j ∧ ρ' 3 j = ρ 3 j) : wtl ρ' k = wtl ρ k := by
  induction k with
  | zero => rfl
  | succ k ih =>
    simp only [wtl]
    obtain ⟨a, b⟩ := h (k : Int) (by omega) (by omega)
    rw [a, b, ih (fun j j0 j1 => h j j0 (by omega))]
