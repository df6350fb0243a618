/-! ===== the pure part: nodes that are too empty go, on both sides ===== -/
/-- the orphans of the levels below k, the highest one first -/
def oL (f : Int → Int) : Nat → List (Int × Int)
  | 0 => []
  | k + 1 => if f (k : Int) = -1 then oL f k else (f (k : Int), (k : Int)) :: oL f k
theorem mem_oL {f : Int → Int} {a : Int × Int} (k : Nat) : a ∈ oL f k ↔ 0 ≤ a.2 ∧ a.2 < (k : Int) ∧ f a.2 = a.1 ∧ a.1 ≠ -1 := by
  induction k with
  | zero =>
    simp only [oL, List.not_mem_nil, false_iff]
    intro h; omega
  | succ k ih =>
    simp only [oL]
    by_cases c : f (k : Int) = -1
    · rw [if_pos c, ih]
      constructor
      · rintro ⟨a1, a2, a3, a4⟩; exact ⟨a1, by omega, a3, a4⟩
      · rintro ⟨a1, a2, a3, a4⟩
        refine ⟨a1, ?_, a3, a4⟩
        by_cases e : a.2 = (k : Int)
        · rw [e, c] at a3; exact absurd a3.symm a4
        · omega
    · rw [if_neg c, List.mem_cons, ih]
      constructor
      · rintro (e | ⟨a1, a2, a3, a4⟩)
        · rw [e]; exact ⟨by dsimp only; omega, by dsimp only; omega, rfl, c⟩
        · exact ⟨a1, by omega, a3, a4⟩
      · rintro ⟨a1, a2, a3, a4⟩
        by_cases e : a.2 = (k : Int)
        · left
          rw [e] at a3
          exact Prod.ext a3.symm e
        · right; exact ⟨a1, by omega, a3, a4⟩
theorem oL_same {f g : Int → Int} (k : Nat) (h : ∀ j : Int, 0 ≤ j → j < (k : Int) → f j = g j) : oL f k = oL g k := by
  induction k with
  | zero => rfl
  | succ k ih =>
    simp only [oL]
    rw [h (k : Int) (by omega) (by omega), ih (fun j a b => h j a (by omega))]
theorem oL_top {f : Int → Int} {k : Nat} (m : Nat) (h : ∀ j : Int, (k : Int) ≤ j → j < (k : Int) + (m : Int) → f j = -1) : oL f (k + m) = oL f k := by
  induction m with
  | zero => rfl
  | succ m ih =>
    rw [show k + (m + 1) = (k + m) + 1 from rfl]
    simp only [oL]
    rw [if_pos (h _ (by omega) (by omega)), ih (fun j a b => h j a (by omega))]
theorem p_drop1 {Q : jx_St → Prop} {σ : jx_St} {n : Int} (hn : nd n) (h1 : σ 3 n = 1) (hl : jx_R (σ 2 n)) (hx : tv (th σ n 0) (σ 2 n)) (h : Q (dpF (rmF σ n 0) n)) : wp_T_drop Q σ n := by
  refine p_clearRow2 hn ⟨by omega, by omega⟩ hl (fun k k0 k1 => by rw [show k = 0 by omega]; exact hx) ⟨hn.R, hn.R, hn.R, ?_⟩
  rw [jx_se_in hn.1 hn.2, jx_se_in hn.1 hn.2, jx_se_in hn.1 hn.2]
  have e : clN σ n (σ 3 n).toNat = rmF σ n 0 := by
    rw [h1]
    show rmF σ n (σ 3 n - ((0 : Nat) : Int) - 1) = rmF σ n 0
    rw [h1]; rfl
  rw [e]
  exact h
/-- a node that has one thing goes; the thing waits -/
theorem ws_dissolve {σ : jx_St} {P : List (Int × Int)} {n ab k : Int} (hW : Ws σ P [n]) (hH : Hs σ []) (hn : lvn σ n) (h1 : σ 3 n = 1) (hab : lvn σ ab) (hl : σ 2 ab = σ 2 n + 1) (k0 : 0 ≤ k) (k1 : k < σ 3 ab) (hk : th σ ab k = n) :
    Ws (dpF (rmF (rmF σ ab k) n 0) n) ((th σ n 0, σ 2 n) :: P) [ab] ∧ Hs (dpF (rmF (rmF σ ab k) n 0) n) [ab] ∧ th (rmF σ ab k) n 0 = th σ n 0 ∧ (∀ m, dpF (rmF (rmF σ ab k) n 0) n 2 m = if m = n then -1 else σ 2 m) ∧ (∀ m, dpF (rmF (rmF σ ab k) n 0) n 3 m = if m = n then 0 else if m = ab then σ 3 ab - 1 else σ 3 m) ∧ (rmF σ ab k) 3 n = 1 := by
  have n0 := hn.2
  have ne : n ≠ ab := fun e => by rw [← e] at hl; omega
  have s5 := (hW.sh.1 ab hab).2.1
  have hW1 := ws_detach hW hab ⟨k0, k1⟩
  have hH1 := hs_rm hW hH hab ⟨k0, k1⟩
  have r2 : ∀ m, rmF σ ab k 2 m = σ 2 m := fun m => rmF_2
  have r3 : ∀ m, rmF σ ab k 3 m = if m = ab then σ 3 ab - 1 else σ 3 m := fun m => by simp [rmF]
  have hn1 : lvn (rmF σ ab k) n := ⟨hn.1, by rw [r2]; exact hn.2⟩
  have t1 : th (rmF σ ab k) n 0 = th σ n 0 := th_rm_ne ne (Int.le_refl _) (by decide) s5 ⟨k0, k1⟩
  have e3 : rmF σ ab k 3 n = 1 := by rw [r3, if_neg ne, h1]
  have hp0 : 0 ≤ (0 : Int) ∧ (0 : Int) < rmF σ ab k 3 n := by rw [e3]; decide
  have hW2 := ws_detach hW1 hn1 hp0
  have hH2 := hs_rm hW1 hH1 hn1 hp0
  rw [t1, r2, hk] at hW2
  have q3 : ∀ m, rmF (rmF σ ab k) n 0 3 m = if m = n then 0 else if m = ab then σ 3 ab - 1 else σ 3 m := fun m => by
    have : rmF (rmF σ ab k) n 0 3 m = if m = n then rmF σ ab k 3 n - 1 else rmF σ ab k 3 m := by
      generalize rmF σ ab k = υ
      simp [rmF]
    rw [this, e3, r3]; rfl
  have q2 : ∀ m, rmF (rmF σ ab k) n 0 2 m = σ 2 m := fun m => by rw [rmF_2, r2]
  have hW3 := ws_perm (P' := (n, σ 2 ab) :: (th σ n 0, σ 2 n) :: P) hW2 (fun a => by
    simp only [List.mem_cons]
    exact ⟨fun q => by rcases q with q | q | q; exact Or.inr (Or.inl q); exact Or.inl q; exact Or.inr (Or.inr q), fun q => by rcases q with q | q | q; exact Or.inr (Or.inl q); exact Or.inl q; exact Or.inr (Or.inr q)⟩) ((List.Perm.swap _ _ _).nodup hW2.2.2.2.2.2.2.2.2.1)
  have hW4 := ws_drop hW3 (by omega) (by rw [q3, if_pos rfl])
  have d2 : ∀ m, dpF (rmF (rmF σ ab k) n 0) n 2 m = if m = n then -1 else σ 2 m := fun m => by rw [dpF_2, q2]
  have d3 : ∀ m, dpF (rmF (rmF σ ab k) n 0) n 3 m = if m = n then 0 else if m = ab then σ 3 ab - 1 else σ 3 m := fun m => by rw [dpF_n (by decide) (by decide) (by decide), q3]
  have nl : ¬ lvn (dpF (rmF (rmF σ ab k) n 0) n) n := fun h => by have := h.2; rw [d2, if_pos rfl] at this; omega
  refine ⟨ws_E hW4 (fun m hm => ?_), (hs_drop (fun m hm => (hW2.sh.1 m hm).1) hH2 (fun m hm h0 _ hmem => ?_)).sub (fun m hm => ?_), t1, d2, d3, e3⟩
  · rcases List.mem_cons.mp hm with z | z
    · exact Or.inr (fun h => absurd (by rw [z] at h; exact h) nl)
    · rcases List.mem_cons.mp z with z | z
      · rw [z]; exact Or.inl List.mem_cons_self
      · rw [List.mem_singleton.mp z]; exact Or.inr (fun h => absurd h nl)
  · obtain ⟨a, b, c⟩ := hW3.2.2.2.2.1 m n hm hmem
    rcases a with ⟨a, _⟩ | ⟨_, _, a, _⟩
    · omega
    · rw [q2] at a
      apply c
      rw [show rmF (rmF σ ab k) n 0 2 m = σ 2 ab by omega]
      exact List.mem_cons_self
  · rcases List.mem_cons.mp hm with z | z
    · rw [z]; exact Or.inr nl
    · exact Or.inl z
theorem ag_03 {σ μ : jx_St} {v : Int} (hA : Ag σ μ) : Ag σ (jx_su μ 0 3 v) := by
  have fin : ∀ j, j ≠ 3 → jx_su μ 0 3 v 0 j = μ 0 j := fun j h => by rw [jx_su_same, if_neg h]
  obtain ⟨c0, c1, c2, c3, c4, c5, c6, c7⟩ := hA
  refine ⟨?_, fun m m0 m1 => ?_, fun m hm => ?_, fun m k hm k0 k1 => ?_, fun c hc => ?_, fun c k hc hne k0 k1 => ?_, ?_, ?_⟩
  · rw [fin _ (by omega), c0]
  · rw [fin _ (by omega), c1 m m0 m1]
  · have := hm.1.1; rw [fin _ (by omega), c2 m hm]
  · have := hm.1.1; rw [fin _ (by omega), c3 m k hm k0 k1]
  · have := hc.1; rw [fin _ (by omega), c4 c hc]
  · have := hc.1; rw [fin _ (by omega), c5 c k hc hne k0 k1]
  · rw [fin _ (by omega), c6]
  · rw [fin _ (by omega), c7]
/-- a node that goes, in the reference -/
theorem ag_drop {σ μ : jx_St} {n : Int} (hA : Ag σ μ) (hn : lvn σ n) (h1 : σ 3 n = 1) (h5 : ∀ m, lvn σ m → σ 3 m ≤ 5) : Ag (dpF (rmF σ n 0) n) (jx_su μ 0 (159 + n) (-1)) := by
  have n0 := hn.1.1
  have n1 := hn.1.2
  have fin : ∀ j, j ≠ 159 + n → jx_su μ 0 (159 + n) (-1) 0 j = μ 0 j := fun j h => by rw [jx_su_same, if_neg h]
  have d2 : ∀ m, dpF (rmF σ n 0) n 2 m = if m = n then -1 else σ 2 m := fun m => by rw [dpF_2, rmF_2]
  have lv' : ∀ m, lvn (dpF (rmF σ n 0) n) m → lvn σ m ∧ m ≠ n := fun m hm => by
    have h := hm.2
    rw [d2] at h
    by_cases z : m = n
    · rw [if_pos z] at h; omega
    · rw [if_neg z] at h; exact ⟨⟨hm.1, h⟩, z⟩
  have d3 : ∀ m, m ≠ n → dpF (rmF σ n 0) n 3 m = σ 3 m := fun m hm => by rw [dpF_n (by decide) (by decide) (by decide)]; simp [rmF, hm]
  have dn : ∀ q i, q ≠ 1 → q ≠ 2 → q ≠ 3 → q ≠ 4 → q ≠ 5 → q ≠ 6 → dpF (rmF σ n 0) n q i = σ q i := fun q i q1 q2 q3 q4 q5 q6 => by rw [dpF_n q2 q4 q5, rmF_n q1 q3 q5 q6]
  obtain ⟨c0, c1, c2, c3, c4, c5, c6, c7⟩ := hA
  refine ⟨?_, fun m m0 m1 => ?_, fun m hm => ?_, fun m k hm k0 k1 => ?_, fun c hc => ?_, fun c k hc hne k0 k1 => ?_, ?_, ?_⟩
  · rw [fin _ (by omega), c0, dn 7 _ (by decide) (by decide) (by decide) (by decide) (by decide) (by decide)]
  · rw [jx_su_same, d2]
    by_cases z : m = n
    · rw [if_pos (by rw [z]), if_pos z, if_pos (by omega)]
    · rw [if_neg (by omega), if_neg z, c1 m m0 m1]
  · obtain ⟨a, b⟩ := lv' m hm
    have := a.1.1
    rw [fin _ (by omega), c2 m a, d3 m b]
  · obtain ⟨a, b⟩ := lv' m hm
    have := a.1.1
    rw [d3 m b] at k1
    have := h5 m a
    rw [fin _ (by omega), c3 m k a k0 k1]
    have e : th (dpF (rmF σ n 0) n) m k = th (rmF σ n 0) m k := by unfold th; rw [dpF_n (by decide) (by decide) (by decide)]
    rw [e, th_rm_ne b k0 (by omega) (by omega) ⟨Int.le_refl _, by omega⟩]
  · have := hc.1; have := hc.2; rw [fin _ (by omega), c4 c hc, dn 0 _ (by decide) (by decide) (by decide) (by decide) (by decide) (by decide)]
  · have := hc.1; have := hc.2
    rw [dn 0 _ (by decide) (by decide) (by decide) (by decide) (by decide) (by decide)] at hne ⊢
    rw [fin _ (by omega), c5 c k hc hne k0 k1]
  · rw [fin _ (by omega), c6, dn 8 _ (by decide) (by decide) (by decide) (by decide) (by decide) (by decide)]
  · rw [fin _ (by omega), c7, dn 9 _ (by decide) (by decide) (by decide) (by decide) (by decide) (by decide)]
