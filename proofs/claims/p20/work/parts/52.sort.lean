/-! ===== the pure part: things in order, the best way to split ===== -/
def insF (key : Int → Int) (f : Int → Int) (x : Int) : Nat → (Int → Int)
  | 0 => fun i => if i = 0 then x else f i
  | a + 1 => if key x < key (f (a : Int)) then insF key (fun i => if i = (a : Int) + 1 then f (a : Int) else f i) x a else fun i => if i = (a : Int) + 1 then x else f i
def srF (key : Int → Int) (row : Int → Int) : Nat → (Int → Int)
  | 0 => fun _ => 0
  | k + 1 => insF key (srF key row k) (row (k : Int)) k
theorem insF_hi {key : Int → Int} {x : Int} (a : Nat) : ∀ (f : Int → Int) (i : Int), (a : Int) < i → insF key f x a i = f i := by
  induction a with
  | zero => intro f i h; simp only [insF]; rw [if_neg (by omega)]
  | succ a ih =>
    intro f i h
    simp only [insF]
    split
    · rw [ih _ _ (by omega), if_neg (by omega)]
    · dsimp only; rw [if_neg (by omega)]
def fl (f : Int → Int) (k : Nat) : List Int := (List.range k).map (fun j : Nat => f (j : Int))
theorem fl_succ (f : Int → Int) (k : Nat) : fl f (k + 1) = fl f k ++ [f (k : Int)] := by
  unfold fl
  rw [List.range_succ, List.map_append]
  rfl
theorem fl_same {f g : Int → Int} (k : Nat) (h : ∀ j : Int, 0 ≤ j → j < (k : Int) → f j = g j) : fl f k = fl g k := by
  unfold fl
  apply List.map_congr_left
  intro j hj
  rw [List.mem_range] at hj
  exact h _ (by omega) (by omega)
theorem insF_perm {key : Int → Int} {x : Int} (a : Nat) : ∀ f : Int → Int, (fl (insF key f x a) (a + 1)).Perm (x :: fl f a) := by
  induction a with
  | zero => intro f; exact List.Perm.refl _
  | succ a ih =>
    intro f
    rw [fl_succ (insF key f x (a + 1)) (a + 1)]
    simp only [insF]
    split
    · have h1 := ih (fun i => if i = (a : Int) + 1 then f (a : Int) else f i)
      have h2 : fl (fun i => if i = (a : Int) + 1 then f (a : Int) else f i) a = fl f a := fl_same a (fun j _ j1 => by rw [if_neg (by omega)])
      rw [h2] at h1
      have h3 : insF key (fun i => if i = (a : Int) + 1 then f (a : Int) else f i) x a ((a + 1 : Nat) : Int) = f (a : Int) := by
        rw [insF_hi _ _ _ (by omega), if_pos (by omega)]
      rw [h3, fl_succ f a]
      exact List.Perm.append_right _ h1
    · have h2 : fl (fun i => if i = (a : Int) + 1 then x else f i) (a + 1) = fl f (a + 1) := fl_same _ (fun j _ j1 => by rw [if_neg (by omega)])
      rw [h2]
      have h3 : (if ((a + 1 : Nat) : Int) = (a : Int) + 1 then x else f ((a + 1 : Nat) : Int)) = x := if_pos (by omega)
      show (fl f (a + 1) ++ [if ((a + 1 : Nat) : Int) = (a : Int) + 1 then x else f ((a + 1 : Nat) : Int)]).Perm _
      rw [h3]
      exact List.perm_append_comm (l₂ := [x])
theorem srF_perm {key row : Int → Int} (k : Nat) : (fl (srF key row k) k).Perm (fl row k) := by
  induction k with
  | zero => exact List.Perm.refl _
  | succ k ih =>
    rw [fl_succ row k]
    refine (insF_perm k _).trans ?_
    exact (List.Perm.cons _ ih).trans (List.perm_append_comm (l₁ := [row (k : Int)]))
theorem srF_mem {key row : Int → Int} {k : Nat} {j : Int} (j0 : 0 ≤ j) (j1 : j < (k : Int)) : ∃ i : Int, 0 ≤ i ∧ i < (k : Int) ∧ srF key row k j = row i := by
  have h : srF key row k j ∈ fl (srF key row k) k := by
    unfold fl
    exact List.mem_map.mpr ⟨j.toNat, List.mem_range.mpr (by omega), by rw [Int.toNat_of_nonneg j0]⟩
  have h := (srF_perm k).mem_iff.mp h
  unfold fl at h
  obtain ⟨i, hi, e⟩ := List.mem_map.mp h
  rw [List.mem_range] at hi
  exact ⟨(i : Int), by omega, by omega, e.symm⟩
theorem p_arrange {Q : jx_St → Prop} {ρ σ : jx_St} {n ax : Int} (hn : nd n) (hl : jx_R (σ 2 n)) (hx : ∀ k, 0 ≤ k → k < 5 → tv (th σ n k) (σ 2 n)) (h : ∀ ρ' : jx_St, (∀ k, k ≠ 10 → k ≠ 11 → ρ' k = ρ k) → (∀ j, 0 ≤ j → j < 5 → ρ' 10 j = srF (fun x => kyF (hv σ x (σ 2 n)) ax) (th σ n) 5 j ∧ ρ' 11 j = hv σ (srF (fun x => kyF (hv σ x (σ 2 n)) ax) (th σ n) 5 j) (σ 2 n)) → Q ρ') : wp_C_arrange Q ρ σ n ax := by
  refine p_levelOf hn ?_
  refine jx_loop (fun v => 0 ≤ v.2 ∧ v.2 ≤ 5 ∧ (∀ k, k ≠ 10 → k ≠ 11 → v.1 k = ρ k) ∧ (∀ j, 0 ≤ j → j < v.2 → v.1 10 j = srF (fun x => kyF (hv σ x (σ 2 n)) ax) (th σ n) v.2.toNat j ∧ v.1 11 j = hv σ (srF (fun x => kyF (hv σ x (σ 2 n)) ax) (th σ n) v.2.toNat j) (σ 2 n))) (fun v => (5 - v.2).toNat) (fun B v hI hB => ?_) ⟨Int.le_refl _, by show (0 : Int) ≤ 5; decide, fun _ _ _ => rfl, fun j j0 j1 => by exfalso; dsimp only at j1; omega⟩
  obtain ⟨ρ1, k⟩ := v
  obtain ⟨a1, a2, a3, a4⟩ := hI
  dsimp only at a1 a2 a3 a4 ⊢
  refine ⟨jx_inR (by omega) (by omega), fun q => p_thingAt hn ⟨a1, q⟩ (p_hull hl (hx k a1 q) ?_), fun q => ?_⟩
  · refine jx_loop (fun v => 0 ≤ v.2 ∧ v.2 ≤ k ∧ (∀ k, k ≠ 10 → k ≠ 11 → v.1 k = ρ k) ∧ ∃ f : Int → Int, insF (fun x => kyF (hv σ x (σ 2 n)) ax) f (th σ n k) v.2.toNat = srF (fun x => kyF (hv σ x (σ 2 n)) ax) (th σ n) (k.toNat + 1) ∧ ∀ j, 0 ≤ j → j ≤ k → j ≠ v.2 → v.1 10 j = f j ∧ v.1 11 j = hv σ (f j) (σ 2 n)) (fun v => v.2.toNat) (fun B2 v hI2 hB2 => ?_) ⟨a1, Int.le_refl _, a3, srF (fun x => kyF (hv σ x (σ 2 n)) ax) (th σ n) k.toNat, ?_, fun j j0 j1 j2 => a4 j j0 (by dsimp only at j2; omega)⟩
    · obtain ⟨ρ2, i⟩ := v
      obtain ⟨b1, b2, b3, f, b4, b5⟩ := hI2
      dsimp only at b1 b2 b3 b4 b5 ⊢
      have fin : ∀ (hT : (fun j => if j = i then th σ n k else f j) = srF (fun x => kyF (hv σ x (σ 2 n)) ax) (th σ n) (k.toNat + 1)), wp_C_arrange_121 Q σ n ax B ρ2 (σ 2 n) k (th σ n k) (hv σ (th σ n k) (σ 2 n)) i := by
        intro hT
        refine ⟨jx_inR (by omega) (by omega), jx_inR (by omega) (by omega), ?_⟩
        rw [jx_se_in (by omega) (by omega), jx_se_in (by omega) (by omega)]
        refine hB _ ⟨by show 0 ≤ k + 1; omega, by show k + 1 ≤ 5; omega, fun m m1 m2 => ?_, fun j j0 j1 => ?_⟩ (by show (5 - (k + 1)).toNat < (5 - k).toNat; omega)
        · funext z; dsimp only; rw [jx_su_ne m2, jx_su_ne m1, b3 m m1 m2]
        · dsimp only at j1 ⊢
          rw [show (k + 1).toNat = k.toNat + 1 by omega, ← hT, jx_su_ne (by decide), jx_su_same, jx_su_same]
          dsimp only
          by_cases z : j = i
          · rw [if_pos z, if_pos z, if_pos z]; exact ⟨rfl, rfl⟩
          · rw [if_neg z, if_neg z, if_neg z, jx_su_ne (by decide)]
            exact b5 j j0 (by omega) z
      refine ⟨jx_inR (by omega) (by omega), fun c => ?_, fun c => ⟨jx_inR (by omega) (by omega), ?_⟩⟩
      · have ei : i = 0 := by omega
        subst ei
        exact fin b4
      · have ei : i.toNat = (i - 1).toNat + 1 := by omega
        have ec : (((i - 1).toNat : Nat) : Int) = i - 1 := Int.toNat_of_nonneg (by omega)
        rw [ei] at b4
        simp only [insF] at b4
        rw [ec] at b4
        obtain ⟨g1, g2⟩ := b5 (i - 1) (by omega) (by omega) (by omega)
        have e11 : jx_at 5 (ρ2 11) (i - 1) = hv σ (f (i - 1)) (σ 2 n) := by rw [jx_at_in (by omega) (by omega)]; exact g2
        rw [e11]
        have kR : ∀ z, jx_R (kyF z ax) := fun z => by
          have h1 := bs_ge z ax
          have h2 := bs_lt z ax
          have h3 := bs_ge z (ax + 2)
          have h4 := bs_lt z (ax + 2)
          exact jx_inR (by show _ ≤ 128 * bs z ax + bs z (ax + 2); omega) (by show 128 * bs z ax + bs z (ax + 2) ≤ _; omega)
        refine p_key (p_key ⟨kR _, kR _, fun d => ?_, fun d => ?_⟩)
        · rw [if_neg (by omega)] at b4
          refine fin ?_
          rw [← b4]
          funext j
          rw [show i - 1 + 1 = i by omega]
        · rw [if_pos (by omega)] at b4
          refine ⟨jx_inR (by omega) (by omega), jx_inR (by omega) (by omega), jx_inR (by omega) (by omega), jx_inR (by omega) (by omega), ?_⟩
          rw [jx_at_in (by omega) (by omega), jx_at_in (by omega) (by omega), jx_se_in (by omega) (by omega), jx_se_in (by omega) (by omega)]
          refine hB2 _ ⟨by show 0 ≤ i + -1; omega, by show i + -1 ≤ k; omega, fun m m1 m2 => ?_, _, b4, fun j j0 j1 j2 => ?_⟩ (by show (i + -1).toNat < i.toNat; omega)
          · funext z; dsimp only; rw [jx_su_ne m2, jx_su_ne m1, b3 m m1 m2]
          · dsimp only at j2 ⊢
            rw [jx_su_ne (by decide), jx_su_same, jx_su_same, show i - 1 + 1 = i by omega]
            by_cases z : j = i
            · rw [if_pos z, if_pos z, if_pos z, jx_su_ne (by decide)]; exact ⟨g1, g2⟩
            · rw [if_neg z, if_neg z, if_neg z, jx_su_ne (by decide)]
              exact b5 j j0 j1 z
    · dsimp only
      simp only [srF]
      rw [Int.toNat_of_nonneg a1]
  · have ek : k = 5 := by omega
    subst ek
    exact h ρ1 a3 a4
