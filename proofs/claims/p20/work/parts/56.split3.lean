/-! ===== the pure part: splitting, the whole of it ===== -/
def swy (σ : jx_St) (n : Int) : Int := (bwS σ n 4).1
def scu (σ : jx_St) (n : Int) : Int := 2 + swy σ n % 2
def sth (σ : jx_St) (n : Int) : Int → Int := wS σ n (swy σ n / 2)
def frs (σ : jx_St) (f : Int) : Prop := nd f ∧ σ 2 f = -1 ∧ ∀ j, 0 ≤ j → j < f → σ 2 j ≠ -1
theorem swy_bd {σ : jx_St} {n : Int} (hh : ∀ k, 0 ≤ k → k < 5 → vbo (hv σ (th σ n k) (σ 2 n))) : 0 ≤ swy σ n ∧ swy σ n < 4 ∧ 2 ≤ scu σ n ∧ scu σ n ≤ 3 := by
  have h := bwS_bd hh 4
  unfold swy scu
  unfold swy
  exact ⟨h.2.2.1 (by decide), by have := h.2.1; omega, by omega, by omega⟩
theorem p_split {Q : Int → jx_St → jx_St → Prop} {ρ σ : jx_St} {P : List (Int × Int)} {n : Int} (hW : Ws σ P []) (hH : Hs σ []) (hn : lvn σ n) (h5 : σ 3 n = 5)
    (hA : n ≠ σ 7 0 → ∃ ab k0, lvn σ ab ∧ σ 2 ab = σ 2 n + 1 ∧ σ 3 ab ≤ 4 ∧ 0 ≤ k0 ∧ k0 < σ 3 ab ∧ th σ ab k0 = n ∧ ∀ f τ ρ', frs σ f → (∀ k, k ≠ 10 → k ≠ 11 → ρ' k = ρ k) → spA σ P n f ab k0 (scu σ n) (sth σ n) τ → Q ab ρ' τ)
    (hB : n = σ 7 0 → ∀ f g τ ρ', frs σ f → nd g → g ≠ f → σ 2 g = -1 → (∀ j, 0 ≤ j → j < g → j ≠ f → σ 2 j ≠ -1) → (∀ k, k ≠ 10 → k ≠ 11 → ρ' k = ρ k) → spB σ P n f g (scu σ n) (sth σ n) τ → Q g ρ' τ) : wp_C_split Q ρ σ n := by
  have hS := hW.sh
  have l3 := (hS.1 n hn).2.2
  have l0 := hn.2
  have hx : ∀ k, 0 ≤ k → k < 5 → tv (th σ n k) (σ 2 n) := fun k a b => Sh_tv hS hn a (by omega)
  have hh : ∀ k, 0 ≤ k → k < 5 → vbo (hv σ (th σ n k) (σ 2 n)) := fun k a b => Sh_hv hS (fun m hm => hH.1 m hm.1) hn a (by omega)
  obtain ⟨s1, s2, s3, s4⟩ := swy_bd hh
  obtain ⟨x1, x2⟩ := ax_ok s1 s2
  refine p_bestWay hn.1 (hW.R2 hn) hx hh (fun ρ1 r1 => ?_)
  show wp_C_arrange _ ρ1 σ n (jx_shr (swy σ n) 1)
  rw [x1]
  refine p_arrange hn.1 (hW.R2 hn) hx (fun ρ2 r2 r3 => ?_)
  refine p_levelOf hn.1 ?_
  obtain ⟨f, f0, f1, f2⟩ := cnt_free hW
  refine p_newNode f0 f1 f2 ?_
  have nf : n ≠ f := fun e => by rw [e, f1] at l0; omega
  have a2 : ∀ m, jx_su σ 2 f (σ 2 n) 2 m = if m = f then σ 2 n else σ 2 m := fun m => jx_su_same
  have ar : ∀ q i, q ≠ 2 → jx_su σ 2 f (σ 2 n) q i = σ q i := fun q i h => jx_su_ne h
  have e3 : jx_su σ 2 f (σ 2 n) 3 n = 5 := by rw [ar _ _ (by decide), h5]
  refine p_clearRow2 hn.1 (by rw [e3]; decide) (by rw [a2, if_neg nf]; exact hW.R2 hn) (fun k a b => by rw [a2, if_neg nf, show th (jx_su σ 2 f (σ 2 n)) n k = th σ n k from ar 6 _ (by decide)]; exact hx k a (by rw [e3] at b; exact b)) ?_
  rw [e3]
  have hJ := spJ_start (cut := scu σ n) (ax := swy σ n / 2) hW hH hn h5 f0 f1 s3
  have fr : ∀ k, k ≠ 10 → k ≠ 11 → ρ2 k = ρ k := fun k k1 k2 => by rw [r2 k k1 k2, r1 k k1 k2]
  have ff : frs σ f := ⟨f0, f1, fun j a b => (f2 j a b).1⟩
  show jx_lp (fun B48v v48 => wp_C_split_48 Q n (fun w48 => wp_C_split_101 Q n ρ2 w48 f) ρ2 (2 + jx_and (swy σ n) 1) f B48v v48.1 v48.2) (clN (jx_su σ 2 f (σ 2 n)) n 5, 0)
  rw [x2]
  refine p_spl48 (c := sth σ n) nf hn f0 ⟨s3, s4⟩ l3 (fun j a b => (r3 j a b).1) hJ (fun τ hJ5 => ?_)
  by_cases hr : n = σ 7 0
  · have hl : σ 2 n ≤ 2 := by
      by_cases z : σ 2 n = 3
      · have := cnt_3 hW (by rw [← hr]; exact z)
        rw [← hr] at this
        omega
      · omega
    exact p_splitB hn f0 f1 ⟨s3, s4⟩ hr hl hJ5 (fun g τ' g0 gf g1 g2 hs => hB hr f g τ' ρ2 ff g0 gf g1 g2 fr hs)
  · obtain ⟨ab, k0, b1, b2, b3, b4, b5, b6, b7⟩ := hA hr
    exact p_splitA hn f0 f1 ⟨s3, s4⟩ hr b1 b2 b3 b4 b5 b6 hW.1.1.1.R hJ5 (fun τ' hs => b7 f τ' ρ2 ff fr hs)
/-- what waits -/
theorem p_await {Q : jx_St → Prop} {ρ : jx_St} {x l : Int} (h0 : 0 ≤ ρ 4 0) (h1 : ρ 4 0 < 64) (h : ∀ ρ' : jx_St, (∀ k, k ≠ 2 → k ≠ 3 → k ≠ 4 → ρ' k = ρ k) → ρ' 4 0 = ρ 4 0 + 1 → ρ' 2 (ρ 4 0) = x → ρ' 3 (ρ 4 0) = l → (∀ j, j ≠ ρ 4 0 → ρ' 2 j = ρ 2 j ∧ ρ' 3 j = ρ 3 j) → Q ρ') : wp_C_await Q ρ x l := by
  refine ⟨jx_inR (by omega) (by omega), fun _ => ⟨jx_inR (by omega) (by omega), ?_⟩, fun q => absurd h1 q⟩
  rw [jx_se_in h0 h1]
  have e4 : jx_su ρ 2 (ρ 4 0) x 4 0 = ρ 4 0 := jx_su_ne (by decide)
  rw [e4]
  refine ⟨jx_inR (by omega) (by omega), ?_⟩
  rw [jx_se_in h0 h1]
  refine h _ (fun k k2 k3 k4 => ?_) ?_ ?_ ?_ (fun j hj => ⟨?_, ?_⟩)
  · funext i; rw [jx_su_ne k4, jx_su_ne k3, jx_su_ne k2]
  · rw [jx_su_eq, jx_su_ne (by decide), e4]
  · rw [jx_su_ne (by decide), jx_su_ne (by decide)]; exact jx_su_eq
  · rw [jx_su_ne (by decide)]; exact jx_su_eq
  · rw [jx_su_ne (by decide), jx_su_ne (by decide), jx_su_same, if_neg hj]
  · rw [jx_su_ne (by decide), jx_su_same, if_neg hj, jx_su_ne (by decide)]
/-- the farthest thing of a node: its place -/
def frF (σ : jx_St) (n but : Int) : Nat → Int × Int
  | 0 => (-1, 0)
  | k + 1 => if (k : Int) ≠ but ∧ (frF σ n but k).2 ≤ apF (hv σ (th σ n (k : Int)) (σ 2 n)) (σ 4 n) then ((k : Int), apF (hv σ (th σ n (k : Int)) (σ 2 n)) (σ 4 n)) else frF σ n but k
theorem apF_bd (a b : Int) : 0 ≤ apF a b ∧ apF a b ≤ 200000 := by
  unfold apF
  have sq : ∀ x : Int, -254 ≤ x → x ≤ 254 → 0 ≤ x * x ∧ x * x ≤ 64516 := fun x h0 h1 => by
    refine ⟨?_, ?_⟩
    · rcases Int.le_total 0 x with z | z
      · exact Int.mul_nonneg z z
      · exact Int.mul_nonneg_of_nonpos_of_nonpos z z
    · rcases Int.le_total 0 x with z | z
      · exact Int.le_trans (Int.mul_le_mul h1 h1 z (by decide)) (by decide)
      · have : x * x = (-x) * (-x) := by rw [Int.neg_mul_neg]
        rw [this]
        exact Int.le_trans (Int.mul_le_mul (by omega : -x ≤ 254) (by omega : -x ≤ 254) (by omega) (by decide)) (by decide)
  have a0 := bs_ge a 0
  have a1 := bs_ge a 1
  have a2 := bs_ge a 2
  have a3 := bs_ge a 3
  have b0 := bs_ge b 0
  have b1 := bs_ge b 1
  have b2 := bs_ge b 2
  have b3 := bs_ge b 3
  have c0 := bs_lt a 0
  have c1 := bs_lt a 1
  have c2 := bs_lt a 2
  have c3 := bs_lt a 3
  have d0 := bs_lt b 0
  have d1 := bs_lt b 1
  have d2 := bs_lt b 2
  have d3 := bs_lt b 3
  have u := sq (bs a 0 + bs a 2 - bs b 0 - bs b 2) (by omega) (by omega)
  have v := sq (bs a 1 + bs a 3 - bs b 1 - bs b 3) (by omega) (by omega)
  omega
theorem frF_bd {σ : jx_St} {n but : Int} (k : Nat) : -1 ≤ (frF σ n but k).1 ∧ (frF σ n but k).1 < (k : Int) ∧ 0 ≤ (frF σ n but k).2 ∧ (frF σ n but k).2 ≤ 200000 ∧ ((frF σ n but k).1 = -1 → (frF σ n but k).2 = 0) ∧ (0 ≤ (frF σ n but k).1 → (frF σ n but k).1 ≠ but ∧ (frF σ n but k).2 = apF (hv σ (th σ n (frF σ n but k).1) (σ 2 n)) (σ 4 n)) ∧ (∀ j : Int, 0 ≤ j → j < (k : Int) → j ≠ but → 0 ≤ (frF σ n but k).1 ∧ apF (hv σ (th σ n j) (σ 2 n)) (σ 4 n) ≤ (frF σ n but k).2 ∧ (apF (hv σ (th σ n j) (σ 2 n)) (σ 4 n) = (frF σ n but k).2 → j ≤ (frF σ n but k).1)) := by
  induction k with
  | zero =>
    simp only [frF]
    exact ⟨Int.le_refl _, by omega, Int.le_refl _, by decide, fun _ => trivial, fun q => absurd q (by decide), fun j a b => by omega⟩
  | succ k ih =>
    obtain ⟨i1, i2, i3, i4, i5, i6, i7⟩ := ih
    have b := apF_bd (hv σ (th σ n (k : Int)) (σ 2 n)) (σ 4 n)
    simp only [frF]
    split
    · next q =>
      dsimp only
      refine ⟨by omega, by omega, b.1, b.2, fun z => by omega, fun _ => ⟨q.1, rfl⟩, fun j j0 j1 jb => ⟨by omega, ?_, fun _ => by omega⟩⟩
      by_cases z : j = (k : Int)
      · rw [z]; exact Int.le_refl _
      · exact Int.le_trans (i7 j j0 (by omega) jb).2.1 q.2
    · next q =>
      refine ⟨i1, by omega, i3, i4, i5, i6, fun j j0 j1 jb => ?_⟩
      by_cases z : j = (k : Int)
      · rw [z] at jb ⊢
        have q2 : ¬ (frF σ n but k).2 ≤ apF (hv σ (th σ n (k : Int)) (σ 2 n)) (σ 4 n) := fun y => q ⟨jb, y⟩
        refine ⟨?_, by omega, fun y => by omega⟩
        by_cases y : (frF σ n but k).1 = -1
        · have := i5 y; omega
        · omega
      · exact i7 j j0 (by omega) jb
theorem p_farthest {Q : Int → Prop} {ρ σ : jx_St} {n but : Int} (hn : nd n) (hl : jx_R (σ 2 n)) (hb : jx_R but) (hs : 0 ≤ σ 3 n ∧ σ 3 n ≤ 5) (hx : ∀ k, 0 ≤ k → k < σ 3 n → tv (th σ n k) (σ 2 n)) (h : Q (frF σ n but (σ 3 n).toNat).1) : wp_C_farthest Q ρ σ n but := by
  refine p_levelOf hn ⟨hn.R, ?_⟩
  rw [jx_at_in hn.1 hn.2]
  refine jx_loop (fun v => 0 ≤ v.2.2 ∧ v.2.2 ≤ σ 3 n ∧ (v.1, v.2.1) = frF σ n but v.2.2.toNat) (fun v => (σ 3 n - v.2.2).toNat) (fun B v hI hB => ?_) ⟨Int.le_refl _, hs.1, rfl⟩
  obtain ⟨bt, ba, k⟩ := v
  obtain ⟨a1, a2, a3⟩ := hI
  dsimp only at a1 a2 a3 ⊢
  have ek : ((k.toNat : Nat) : Int) = k := Int.toNat_of_nonneg a1
  have bd := frF_bd (σ := σ) (n := n) (but := but) k.toNat
  rw [← a3] at bd
  dsimp only at bd
  obtain ⟨d1, d2, d3, d4, _⟩ := bd
  refine p_sizeOf hn ⟨jx_inR (by omega) (by omega), jx_inR (by omega) (by omega), fun q => ?_, fun q => ?_⟩
  · have b := apF_bd (hv σ (th σ n k) (σ 2 n)) (σ 4 n)
    have key : ∀ (r : Int × Int), r = frF σ n but (k.toNat + 1) → B (r.1, r.2, k + 1) := by
      intro r hr
      refine hB _ ⟨by show 0 ≤ k + 1; omega, by show k + 1 ≤ _; omega, ?_⟩ (by show (σ 3 n - (k + 1)).toNat < (σ 3 n - k).toNat; omega)
      dsimp only
      rw [show (k + 1).toNat = k.toNat + 1 by omega]
      exact hr
    have no : ¬ (k ≠ but ∧ ba ≤ apF (hv σ (th σ n k) (σ 2 n)) (σ 4 n)) → B (bt, ba, k + 1) := by
      intro c
      refine key (bt, ba) ?_
      simp only [frF, ← a3, ek]
      rw [if_neg c]
    have yes : (k ≠ but ∧ ba ≤ apF (hv σ (th σ n k) (σ 2 n)) (σ 4 n)) → B (k, apF (hv σ (th σ n k) (σ 2 n)) (σ 4 n), k + 1) := by
      intro c
      refine key (k, apF (hv σ (th σ n k) (σ 2 n)) (σ 4 n)) ?_
      simp only [frF, ← a3, ek]
      rw [if_pos c]
    refine p_thingAt hn ⟨a1, by omega⟩ (p_hull hl (hx k a1 q) (p_apart ⟨jx_inR (by omega) (by omega), hb, fun c => no (fun z => z.1 c), fun c => ⟨jx_inR (by omega) (by omega), jx_inR (by omega) (by omega), fun c2 => no (fun z => by omega), fun c2 => yes ⟨c, by omega⟩⟩⟩))
  · have e : k = σ 3 n := by omega
    subst e
    have : bt = (frF σ n but (σ 3 n).toNat).1 := congrArg Prod.fst a3
    rw [this]
    exact h
