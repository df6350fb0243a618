/-! ===== the property: sets as bits, sums over levels, sides of hulls ===== -/
def setD (d : Int → Int) (n : Int) : Int → Int := fun b => if b = n then 1 else d b
theorem bD_or {d : Int → Int} {n : Int} (hn : nb n) : jx_or (bD d) (jx_shl 1 n) = bD (setD d n) := by
  have n0 := hn.1
  have n1 := hn.2
  have hlt := vN_lt (cD_le d) 31
  have hlt2 := vN_lt (cD_le (setD d n)) 31
  obtain ⟨k, rfl⟩ := Int.eq_ofNat_of_zero_le n0
  have k31 : k < 31 := by omega
  have hp : 2 ^ k ≤ 2 ^ 30 := Nat.pow_le_pow_right (by decide) (by omega)
  have hx : vN (cD d) 31 ||| 2 ^ k = vN (cD (setD d (k : Int))) 31 := by
    apply Nat.eq_of_testBit_eq
    intro i
    rw [Nat.testBit_or, vN_bit (cD_le d), vN_bit (cD_le _), Nat.testBit_two_pow]
    by_cases e : k = i
    · subst e
      unfold cD setD
      simp [k31]
    · have : cD (setD d (k : Int)) i = cD d i := by
        unfold cD setD
        rw [if_neg (show ¬ ((i : Int) = (k : Int)) by omega)]
      rw [this, decide_eq_false e, Bool.or_false]
  unfold bD
  rw [shl_ok k31]
  unfold jx_or
  rw [Int.one_mul, jx_iN (Int.natCast_nonneg _), jx_iN (Int.natCast_nonneg _), Int.toNat_natCast, Int.toNat_natCast]
  have ex : nI (vN (cD d) 31) ||| nI (2 ^ k) = nI (vN (cD (setD d (k : Int))) 31) := by
    apply Int32.toBitVec_inj.mp
    show BitVec.ofNat 32 (vN (cD d) 31) ||| BitVec.ofNat 32 (2 ^ k) = BitVec.ofNat 32 (vN (cD (setD d (k : Int))) 31)
    rw [← BitVec.ofNat_or, hx]
  rw [ex, nI_toInt (by omega)]
theorem bD_0 : bD (fun _ => 0) = 0 := by
  unfold bD
  have : vN (cD (fun _ => 0)) 31 = 0 := by
    apply Nat.eq_of_testBit_eq
    intro i
    rw [vN_bit (cD_le _)]
    simp [cD]
  rw [this]
  rfl
theorem bD_R (d : Int → Int) : jx_R (bD d) := by
  have := vN_lt (cD_le d) 31
  unfold bD
  exact jx_inR (by omega) (by omega)
def inF (f : Int → Int) : Nat → Int → Int
  | 0 => fun _ => 0
  | k + 1 => setD (inF f k) (f (k : Int))
theorem orL_bD {f : Int → Int} (m : Nat) (h : ∀ j : Int, 0 ≤ j → j < (m : Int) → nb (f j)) : orL f m = bD (inF f m) := by
  induction m with
  | zero => exact bD_0.symm
  | succ m ih =>
    simp only [orL, inF]
    rw [ih (fun j j0 j1 => h j j0 (by omega)), bD_or (h (m : Int) (by omega) (by omega))]
theorem inF_iff {f : Int → Int} {b : Int} (m : Nat) : inF f m b ≠ 0 ↔ ∃ j : Int, 0 ≤ j ∧ j < (m : Int) ∧ f j = b := by
  induction m with
  | zero => exact ⟨fun h => absurd rfl h, fun ⟨j, j0, j1, _⟩ => by omega⟩
  | succ m ih =>
    simp only [inF, setD]
    by_cases e : b = f (m : Int)
    · rw [if_pos e]
      exact ⟨fun _ => ⟨(m : Int), by omega, by omega, e.symm⟩, fun _ => by decide⟩
    · rw [if_neg e, ih]
      constructor
      · rintro ⟨j, j0, j1, j2⟩
        exact ⟨j, j0, by omega, j2⟩
      · rintro ⟨j, j0, j1, j2⟩
        by_cases y : j = (m : Int)
        · rw [y] at j2; exact absurd j2.symm e
        · exact ⟨j, j0, by omega, j2⟩
theorem leaf_nb {σ : jx_St} (hI : Inv σ) {x b : Int} (hx : lvn σ x) (h0 : σ 2 x = 0) (hb : b ∈ kids σ x) : nb b := by
  obtain ⟨k, k0, k1, rfl⟩ := mem_kids.mp hb
  have := Sh_tv hI.1.sh hx k0 k1
  unfold tv at this
  rw [if_pos h0] at this
  exact this
theorem leaf_set {σ : jx_St} (hI : Inv σ) {x : Int} (hx : lvn σ x) (h0 : σ 2 x = 0) : orL (th σ x) (σ 3 x).toNat = bD (inF (th σ x) (σ 3 x).toNat) :=
  orL_bD _ (fun j j0 j1 => leaf_nb hI hx h0 (th_kids j0 (by have := (hI.1.sh.1 x hx).1; omega)))
theorem leaf_bit {σ : jx_St} (hI : Inv σ) {x b : Int} (hx : lvn σ x) (h0 : σ 2 x = 0) (hb : nb b) : jx_and (jx_shr (orL (th σ x) (σ 3 x).toNat) b) 1 = if b ∈ kids σ x then 1 else 0 := by
  have s := (hI.1.sh.1 x hx).1
  rw [leaf_set hI hx h0, bD_test hb]
  by_cases c : b ∈ kids σ x
  · rw [if_pos c, if_pos]
    refine (inF_iff _).mpr ?_
    obtain ⟨k, k0, k1, e⟩ := mem_kids.mp c
    exact ⟨k, k0, by omega, e⟩
  · rw [if_neg c, if_neg]
    intro z
    obtain ⟨k, k0, k1, e⟩ := (inF_iff _).mp z
    exact c (mem_kids.mpr ⟨k, k0, by omega, e⟩)
/-- how many of the first k numbers are in a list -/
def cL (L : List Int) (j : Nat) : Nat := if (j : Int) ∈ L then 1 else 0
theorem sN_len {L : List Int} (hn : L.Nodup) (hb : ∀ x ∈ L, nb x) : sN (cL L) 31 = L.length := by
  have h1 : ∀ k : Nat, sN (cL L) k = (((List.range k).map (fun j : Nat => (j : Int))).filter (fun x => decide (x ∈ L))).length := by
    intro k
    induction k with
    | zero => rfl
    | succ k ih =>
      simp only [sN]
      rw [ih, List.range_succ, List.map_append, List.filter_append, List.length_append]
      congr 1
      unfold cL
      by_cases c : (k : Int) ∈ L
      · rw [if_pos c]; simp [c]
      · rw [if_neg c]; simp [c]
  rw [h1 31]
  refine List.Perm.length_eq ((List.perm_ext_iff_of_nodup (List.Pairwise.filter _ ?_) hn).mpr (fun a => ?_))
  · refine List.Pairwise.map (R := (· ≠ ·)) _ ?_ List.nodup_range
    intro a b h e
    exact h (by omega)
  · rw [List.mem_filter, List.mem_map]
    constructor
    · rintro ⟨_, h⟩; exact of_decide_eq_true h
    · intro h
      have := hb a h
      have a0 := this.1
      have a1 := this.2
      exact ⟨⟨a.toNat, List.mem_range.mpr (by omega), Int.toNat_of_nonneg a0⟩, decide_eq_true h⟩
/-- the boxes, leaf by leaf -/
def bxs (σ : jx_St) : List Int := (row σ 0).flatMap (kids σ)
theorem mem_bxs {σ : jx_St} (hI : Inv σ) {b : Int} : b ∈ bxs σ ↔ nb b ∧ σ 0 b ≠ -1 := by
  unfold bxs
  rw [List.mem_flatMap]
  constructor
  · rintro ⟨x, hx, hb⟩
    obtain ⟨h1, h2⟩ := (mem_row hI.1).mp hx
    rcases (hI.1.2.2.2.2.1 x b h1 hb).1 with ⟨_, d, e⟩ | ⟨d, _⟩
    · exact ⟨d, e⟩
    · omega
  · rintro ⟨h1, h2⟩
    obtain ⟨a, b, c⟩ := box_home hI h1 h2
    exact ⟨_, (mem_row hI.1).mpr ⟨a, b⟩, c⟩
theorem bxs_nodup {σ : jx_St} (hI : Inv σ) : (bxs σ).Nodup := by
  obtain ⟨w1, w2, w3, w4, w5, w6, w7, w8, w9, w10⟩ := id hI.1
  refine List.pairwise_flatMap.mpr ⟨fun n hn => w6 n ((mem_row hI.1).mp hn).1, List.Pairwise.imp_of_mem (fun {a b} ha hb hab x hx y hy e => ?_) (row_nodup hI.1 0)⟩
  obtain ⟨a1, a2⟩ := (mem_row hI.1).mp ha
  obtain ⟨b1, b2⟩ := (mem_row hI.1).mp hb
  have h1 := (w5 a x a1 hx).2.1
  have h2 := (w5 b y b1 hy).2.1
  rw [a2] at h1
  rw [b2, ← e, h1] at h2
  exact hab h2
theorem nBx_len {σ : jx_St} (hI : Inv σ) : nBx σ = ((bxs σ).length : Int) := by
  have e : cB σ = fun j => if j < 31 then cL (bxs σ) j else 0 := by
    funext j
    unfold cB cL
    by_cases c : j < 31
    · rw [if_pos c]
      by_cases d : σ 0 (j : Int) = -1
      · rw [if_neg (fun z => z.2 d), if_neg (fun z => ((mem_bxs hI).mp z).2 d)]
      · rw [if_pos ⟨c, d⟩, if_pos ((mem_bxs hI).mpr ⟨⟨by omega, by omega⟩, d⟩)]
    · rw [if_neg c, if_neg (fun z => c z.1)]
  have e2 : ∀ k : Nat, k ≤ 31 → sN (cB σ) k = sN (cL (bxs σ)) k := by
    intro k
    induction k with
    | zero => intro _; rfl
    | succ k ih =>
      intro hk
      simp only [sN]
      rw [ih (by omega), e]
      dsimp only
      rw [if_pos (show k < 31 by omega)]
  unfold nBx
  rw [e2 31 (Nat.le_refl _), sN_len (bxs_nodup hI) (fun x hx => ((mem_bxs hI).mp hx).1)]
theorem nBx_bd {σ : jx_St} (hI : Inv σ) : 0 ≤ nBx σ ∧ nBx σ ≤ 31 := by
  have h : ∀ k : Nat, sN (cB σ) k ≤ k := by
    intro k
    induction k with
    | zero => exact Nat.le_refl _
    | succ k ih => have := cB_le σ k; simp only [sN]; omega
  have := h 31
  unfold nBx
  omega
/-- sums over the levels -/
def sR (f : Int → Int) : Nat → Int
  | 0 => 0
  | n + 1 => sR f n + f (n : Int)
theorem sR_congr {f g : Int → Int} (n : Nat) (h : ∀ l : Int, 0 ≤ l → l < (n : Int) → f l = g l) : sR f n = sR g n := by
  induction n with
  | zero => rfl
  | succ n ih => simp only [sR]; rw [ih (fun l a b => h l a (by omega)), h (n : Int) (by omega) (by omega)]
theorem sR_add (f g : Int → Int) (n : Nat) : sR (fun l => f l + g l) n = sR f n + sR g n := by
  induction n with
  | zero => rfl
  | succ n ih => simp only [sR]; rw [ih]; omega
theorem sR_zero (n : Nat) : sR (fun _ => 0) n = 0 := by
  induction n with
  | zero => rfl
  | succ n ih => simp only [sR]; rw [ih]; rfl
theorem sR_one {m v : Int} (m0 : 0 ≤ m) (n : Nat) : sR (fun l => if m = l then v else 0) n = if m < (n : Int) then v else 0 := by
  induction n with
  | zero => rw [if_neg (by omega)]; rfl
  | succ n ih =>
    simp only [sR]
    rw [ih]
    by_cases c : m = (n : Int)
    · rw [if_neg (by omega), if_pos c, if_pos (by omega)]; omega
    · rw [if_neg c]
      by_cases d : m < (n : Int)
      · rw [if_pos d, if_pos (by omega)]; omega
      · rw [if_neg d, if_neg (by omega)]; rfl
theorem lev_sum {σ : jx_St} {g : Int → Int} {n : Nat} : ∀ S : List Int, (∀ x ∈ S, 0 ≤ σ 2 x ∧ σ 2 x < (n : Int)) → smL g S = sR (fun l => smL g (FS σ S l)) n := by
  intro S
  induction S with
  | nil => intro _; exact (sR_zero n).symm
  | cons x S ih =>
    intro h
    obtain ⟨x0, x1⟩ := h x List.mem_cons_self
    have e : ∀ l : Int, smL g (FS σ (x :: S) l) = (if σ 2 x = l then g x else 0) + smL g (FS σ S l) := fun l => by
      by_cases c : σ 2 x = l
      · rw [FS_cons_pos c, if_pos c]; rfl
      · rw [FS_cons_neg c, if_neg c]; omega
    rw [sR_congr n (fun l _ _ => e l), sR_add, sR_one x0, if_pos x1, ← ih (fun y hy => h y (List.mem_cons_of_mem _ hy))]
    rfl
theorem all_sum {σ : jx_St} (hI : Inv σ) (g : Int → Int) : smL (gD σ g) nds = sR (fun l => smL g (row σ l)) (σ 2 (σ 7 0) + 1).toNat := by
  obtain ⟨ψ, S, hS⟩ := sn_exists hI.1 hI.1.1.1
  rw [← sn_gD hI.1 hS, lev_sum (σ := σ) (n := (σ 2 (σ 7 0) + 1).toNat) S (fun x hx => by
    obtain ⟨h1, h2⟩ := hS.2.2.2.2.2 x hx
    have := h1.2
    omega)]
  exact sR_congr _ (fun l _ _ => by rw [fs_row hI.1 hS])
theorem smL_1 (L : List Int) : smL (fun _ => 1) L = (L.length : Int) := by
  induction L with
  | nil => rfl
  | cons x L ih => rw [smL_cons, ih, List.length_cons]; omega
theorem smL_0 (L : List Int) {f : Int → Int} (h : ∀ x ∈ L, f x = 0) : smL f L = 0 := by
  rw [smL_congr h]
  induction L with
  | nil => rfl
  | cons x L ih => rw [smL_cons, ih (fun y hy => h y (List.mem_cons_of_mem _ hy))]; rfl
theorem sR_first {f : Int → Int} (n : Nat) (h : ∀ l : Int, 0 < l → f l = 0) : sR f (n + 1) = f 0 := by
  induction n with
  | zero => show 0 + f 0 = f 0; omega
  | succ n ih => rw [show sR f (n + 1 + 1) = sR f (n + 1) + f ((n + 1 : Nat) : Int) from rfl, ih, h ((n + 1 : Nat) : Int) (by omega)]; omega
theorem leaves_row {σ : jx_St} (hI : Inv σ) : smL (gD σ (gLe σ)) nds = ((row σ 0).length : Int) := by
  have l0 := hI.1.1.1.2
  rw [all_sum hI, show (σ 2 (σ 7 0) + 1).toNat = (σ 2 (σ 7 0)).toNat + 1 by omega, sR_first _ (fun l hl => smL_0 _ (fun x hx => by
    have := ((mem_row hI.1).mp hx).2
    unfold gLe; rw [if_neg (by omega)])), ← smL_1]
  exact smL_congr (fun x hx => by
    have := ((mem_row hI.1).mp hx).2
    unfold gLe; rw [if_pos this])
theorem areas_row {σ : jx_St} (hI : Inv σ) : smL (gD σ (gAr σ)) nds = smL (fun x => arF (σ 4 x)) (row σ 0) := by
  have l0 := hI.1.1.1.2
  rw [all_sum hI, show (σ 2 (σ 7 0) + 1).toNat = (σ 2 (σ 7 0)).toNat + 1 by omega, sR_first _ (fun l hl => smL_0 _ (fun x hx => by
    have := ((mem_row hI.1).mp hx).2
    unfold gAr; rw [if_neg (by omega)]))]
  exact smL_congr (fun x hx => by
    have := ((mem_row hI.1).mp hx).2
    unfold gAr; rw [if_pos this])
/-- the sides of the box around a row -/
theorem rh_side {σ : jx_St} {x q : Int} (hV : ∀ k, 0 ≤ k → k < σ 3 x → vb (hv σ (th σ x k) (σ 2 x))) (q0 : 0 ≤ q) (q1 : q < 4) : ∀ n : Nat, (n : Int) ≤ σ 3 x → 0 < n → (∃ j : Int, 0 ≤ j ∧ j < (n : Int) ∧ bs (rh σ x n) q = bs (hv σ (th σ x j) (σ 2 x)) q) ∧ ∀ j : Int, 0 ≤ j → j < (n : Int) → (q < 2 → bs (rh σ x n) q ≤ bs (hv σ (th σ x j) (σ 2 x)) q) ∧ (¬ q < 2 → bs (hv σ (th σ x j) (σ 2 x)) q ≤ bs (rh σ x n) q) := by
  intro n
  induction n with
  | zero => intro _ h; exact absurd h (by decide)
  | succ n ih =>
    intro hn _
    have hv1 := hV (n : Int) (by omega) (by omega)
    by_cases c : n = 0
    · subst c
      have e : rh σ x 1 = hv σ (th σ x 0) (σ 2 x) := by
        simp only [rh]
        unfold ar
        rw [if_pos rfl]
        rfl
      refine ⟨⟨0, by omega, by omega, by rw [e]⟩, fun j j0 j1 => ?_⟩
      have : j = 0 := by omega
      rw [this, e]
      exact ⟨fun _ => Int.le_refl _, fun _ => Int.le_refl _⟩
    · obtain ⟨⟨j, j0, j1, j2⟩, all⟩ := ih (by omega) (by omega)
      have hv2 : vb (rh σ x n) := by
        rcases rh_vb hV n (by omega) with z | z
        · omega
        · exact z.2
      have e : bs (rh σ x (n + 1)) q = sw q (bs (rh σ x n) q) (bs (hv σ (th σ x (n : Int)) (σ 2 x)) q) := by
        simp only [rh]
        exact sw_ar hv2 hv1 q0 q1
      unfold sw at e
      by_cases d : q < 2
      · rw [if_pos d] at e
        refine ⟨?_, fun i i0 i1 => ⟨fun _ => ?_, fun z => absurd d z⟩⟩
        · by_cases y : bs (rh σ x n) q ≤ bs (hv σ (th σ x (n : Int)) (σ 2 x)) q
          · exact ⟨j, j0, by omega, by rw [e, ← j2]; omega⟩
          · exact ⟨(n : Int), by omega, by omega, by rw [e]; omega⟩
        · by_cases y : i = (n : Int)
          · rw [y]; omega
          · have := (all i i0 (by omega)).1 d; omega
      · rw [if_neg d] at e
        refine ⟨?_, fun i i0 i1 => ⟨fun z => absurd z d, fun _ => ?_⟩⟩
        · by_cases y : bs (rh σ x n) q ≤ bs (hv σ (th σ x (n : Int)) (σ 2 x)) q
          · exact ⟨(n : Int), by omega, by omega, by rw [e]; omega⟩
          · exact ⟨j, j0, by omega, by rw [e, ← j2]; omega⟩
        · by_cases y : i = (n : Int)
          · rw [y]; omega
          · have := (all i i0 (by omega)).2 d; omega
theorem hull_side {σ : jx_St} (hI : Inv σ) {x q : Int} (hx : lvn σ x) (h1 : 1 ≤ σ 3 x) (q0 : 0 ≤ q) (q1 : q < 4) : (∃ j : Int, 0 ≤ j ∧ j < σ 3 x ∧ bs (σ 4 x) q = bs (hv σ (th σ x j) (σ 2 x)) q) ∧ ∀ j : Int, 0 ≤ j → j < σ 3 x → (q < 2 → bs (σ 4 x) q ≤ bs (hv σ (th σ x j) (σ 2 x)) q) ∧ (¬ q < 2 → bs (hv σ (th σ x j) (σ 2 x)) q ≤ bs (σ 4 x) q) := by
  have e := hI.2.1.2 x hx List.not_mem_nil
  unfold loc at e
  have h := rh_side (σ := σ) (x := x) (q := q) (fun k k0 k1 => vh_of hI.1 hI.2.1 x k hx k0 k1) q0 q1 (σ 3 x).toNat (by omega) (by omega)
  rw [← e, Int.toNat_of_nonneg (by omega)] at h
  exact h
theorem node_size {σ : jx_St} (hI : Inv σ) {x : Int} (hx : lvn σ x) : 0 ≤ σ 3 x ∧ σ 3 x ≤ 4 ∧ (0 < σ 2 (σ 7 0) → 2 ≤ σ 3 x) ∧ (x ≠ σ 7 0 → 2 ≤ σ 3 x) := by
  have s := hI.1.sh.1 x hx
  refine ⟨s.1, hI.2.2.1 x hx, fun h => ?_, fun h => ((hI.1.2.2.2.1 x hx).2.2.resolve_left List.not_mem_nil).1 h⟩
  by_cases c : x = σ 7 0
  · rw [c]; exact hI.2.2.2 h
  · exact ((hI.1.2.2.2.1 x hx).2.2.resolve_left List.not_mem_nil).1 c
