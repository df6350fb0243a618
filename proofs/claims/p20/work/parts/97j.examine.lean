theorem vN_bit {c : Nat → Nat} (hc : ∀ i, c i ≤ 1) (k : Nat) : ∀ i, (vN c k).testBit i = decide (i < k ∧ c i = 1) := by
  induction k with
  | zero => intro i; simp [vN]
  | succ k ih =>
    intro i
    simp only [vN]
    rw [Nat.add_comm, Nat.mul_comm, Nat.testBit_two_pow_mul_add _ (vN_lt hc k)]
    by_cases l : i < k
    · rw [if_pos l, ih]
      congr 1
      apply propext
      constructor
      · rintro ⟨a, b⟩; exact ⟨by omega, b⟩
      · rintro ⟨a, b⟩; exact ⟨l, b⟩
    · rw [if_neg l]
      have hk := hc k
      by_cases e : i = k
      · rw [e, Nat.sub_self]
        have : c k = 0 ∨ c k = 1 := by omega
        rcases this with z | z
        · rw [z]; simp
        · rw [z]; simp
      · have h1 : ¬ (i < k + 1 ∧ c i = 1) := by omega
        have : c k = 0 ∨ c k = 1 := by omega
        rw [decide_eq_false h1]
        rcases this with z | z
        · rw [z]; simp
        · rw [z]
          obtain ⟨m, hm⟩ : ∃ m, i - k = m + 1 := ⟨i - k - 1, by omega⟩
          rw [hm]
          simp [Nat.testBit_succ]
/-- the boxes that are there, as bits -/
def cD (d : Int → Int) (j : Nat) : Nat := if j < 31 ∧ d (j : Int) ≠ 0 then 1 else 0
def bD (d : Int → Int) : Int := (vN (cD d) 31 : Int)
def fpD (d : Int → Int) (n : Int) : Int → Int := fun b => if b = n then (if d n = 0 then 1 else 0) else d b
def dF (σ : jx_St) : Int → Int := fun b => if σ 0 b = -1 then 0 else 1
theorem cD_le (d : Int → Int) (j : Nat) : cD d j ≤ 1 := by unfold cD; split <;> decide
theorem bsF_bD (σ : jx_St) : bsF σ 31 = bD (dF σ) := by
  rw [bsF_val 31 (Nat.le_refl _)]
  unfold bD
  have : cB σ = cD (dF σ) := by
    funext j
    unfold cB cD dF
    by_cases c : σ 0 (j : Int) = -1
    · rw [if_neg (fun z => z.2 c), if_neg (fun z => z.2 (by rw [if_pos c]))]
    · by_cases l : j < 31
      · rw [if_pos ⟨l, c⟩, if_pos ⟨l, by rw [if_neg c]; decide⟩]
      · rw [if_neg (fun z => l z.1), if_neg (fun z => l z.1)]
  rw [this]
theorem bD_test {d : Int → Int} {n : Int} (hn : nb n) : jx_and (jx_shr (bD d) n) 1 = if d n ≠ 0 then 1 else 0 := by
  have n0 := hn.1
  have n1 := hn.2
  have hlt := vN_lt (cD_le d) 31
  obtain ⟨k, rfl⟩ := Int.eq_ofNat_of_zero_le n0
  have k31 : k < 31 := by omega
  unfold bD
  rw [jx_shr_k (by omega) (by omega) (k : Int) k (shl_fin ⟨k, k31⟩), jx_and_k (by
    have : 0 ≤ (vN (cD d) 31 : Int) := by omega
    exact Int.ediv_nonneg this (Int.natCast_nonneg _)) (by
    have : (vN (cD d) 31 : Int) / ((2 ^ k : Nat) : Int) ≤ (vN (cD d) 31 : Int) := Int.ediv_le_self _ (by omega)
    omega) 1 1 (by decide) (by decide)]
  have e : (vN (cD d) 31 : Int) / ((2 ^ k : Nat) : Int) % ((2 ^ 1 : Nat) : Int) = ((vN (cD d) 31 / 2 ^ k % 2 : Nat) : Int) := by
    rw [Int.natCast_emod, Int.natCast_ediv]
  rw [e]
  have hb := vN_bit (cD_le d) 31 k
  rw [Nat.testBit_eq_decide_div_mod_eq] at hb
  have hb2 : (vN (cD d) 31 / 2 ^ k % 2 = 1) ↔ (k < 31 ∧ cD d k = 1) := by
    constructor
    · intro z; exact of_decide_eq_true (by rw [← hb]; exact decide_eq_true z)
    · intro z; exact of_decide_eq_true (by rw [hb]; exact decide_eq_true z)
  have h2 := Nat.mod_lt (vN (cD d) 31 / 2 ^ k) (show 0 < 2 by decide)
  by_cases c : d (k : Int) ≠ 0
  · have : cD d k = 1 := by unfold cD; rw [if_pos ⟨k31, c⟩]
    rw [if_pos c, hb2.mpr ⟨k31, this⟩]; rfl
  · have : cD d k = 0 := by unfold cD; rw [if_neg (fun z => c z.2)]
    have h0 : ¬ (vN (cD d) 31 / 2 ^ k % 2 = 1) := fun z => by have := (hb2.mp z).2; omega
    rw [if_neg c, show vN (cD d) 31 / 2 ^ k % 2 = 0 by omega]; rfl
theorem bD_xor {d : Int → Int} {n : Int} (hn : nb n) : jx_xor (bD d) (jx_shl 1 n) = bD (fpD d n) := by
  have n0 := hn.1
  have n1 := hn.2
  have hlt := vN_lt (cD_le d) 31
  have hlt2 := vN_lt (cD_le (fpD d n)) 31
  obtain ⟨k, rfl⟩ := Int.eq_ofNat_of_zero_le n0
  have k31 : k < 31 := by omega
  have hp : 2 ^ k ≤ 2 ^ 30 := Nat.pow_le_pow_right (by decide) (by omega)
  have hx : vN (cD d) 31 ^^^ 2 ^ k = vN (cD (fpD d (k : Int))) 31 := by
    apply Nat.eq_of_testBit_eq
    intro i
    rw [Nat.testBit_xor, vN_bit (cD_le d), vN_bit (cD_le _), Nat.testBit_two_pow]
    by_cases e : k = i
    · subst e
      unfold cD fpD
      by_cases c : d (k : Int) = 0
      · simp [k31, c]
      · simp [k31, c]
    · have : cD (fpD d (k : Int)) i = cD d i := by
        unfold cD fpD
        rw [if_neg (show ¬ ((i : Int) = (k : Int)) by omega)]
      rw [this, decide_eq_false e, Bool.xor_false]
  unfold bD
  rw [shl_ok k31]
  unfold jx_xor
  rw [Int.one_mul, jx_iN (Int.natCast_nonneg _), jx_iN (Int.natCast_nonneg _), Int.toNat_natCast, Int.toNat_natCast]
  have ex : nI (vN (cD d) 31) ^^^ nI (2 ^ k) = nI (vN (cD (fpD d (k : Int))) 31) := by
    apply Int32.toBitVec_inj.mp
    show BitVec.ofNat 32 (vN (cD d) 31) ^^^ BitVec.ofNat 32 (2 ^ k) = BitVec.ofNat 32 (vN (cD (fpD d (k : Int))) 31)
    rw [← BitVec.ofNat_xor, hx]
  rw [ex, nI_toInt (by omega)]
theorem rdr_bd {o : jx_St} (h : Txo o) {p w : Int} (hw : 0 ≤ w) : ∀ (m : Nat) (i : Int), 0 ≤ i → i + (m : Int) = w → 0 ≤ pk (chr o) p i.toNat → pk (chr o) p i.toNat ≤ o 1 0 → ((rdr (chr o) p w m i).1 = 0 ∨ (rdr (chr o) p w m i).1 = 1) ∧ pk (chr o) p i.toNat ≤ (rdr (chr o) p w m i).2 ∧ (rdr (chr o) p w m i).2 ≤ o 1 0 ∧ ((rdr (chr o) p w m i).1 = 1 → ∀ k, i ≤ k → k < w → 0 ≤ nu (chr o) p k ∧ nu (chr o) p k ≤ 99) := by
  intro m
  induction m with
  | zero =>
    intro i i0 iw p0 p1
    have : i = w := by omega
    subst this
    simp only [rdr]
    exact ⟨Or.inr trivial, Int.le_refl _, p1, fun _ k k0 k1 => by omega⟩
  | succ m ih =>
    intro i i0 iw p0 p1
    simp only [rdr]
    by_cases d : 48 ≤ chr o (pk (chr o) p i.toNat) ∧ chr o (pk (chr o) p i.toNat) ≤ 57
    · rw [if_pos d]
      have hb := nm_bd h d
      by_cases y : chr o (nm (chr o) (pk (chr o) p i.toNat)).2 = dl w i
      · rw [if_pos y]
        have dpos : dl w i ≠ 0 := by unfold dl; split <;> decide
        have hin : (nm (chr o) (pk (chr o) p i.toNat)).2 < o 1 0 := by rcases chr_bd h (nm (chr o) (pk (chr o) p i.toNat)).2 with z | z <;> omega
        have es := pk_succ (c := chr o) (p := p) i0
        obtain ⟨r1, r2, r3, r4⟩ := ih (i + 1) (by omega) (by omega) (by rw [es]; omega) (by rw [es]; omega)
        rw [es] at r2
        refine ⟨r1, by omega, r3, fun z k k0 k1 => ?_⟩
        by_cases e : k = i
        · rw [e]; exact ⟨hb.1, hb.2.1⟩
        · exact r4 z k (by omega) k1
      · rw [if_neg y]
        exact ⟨Or.inl rfl, by dsimp only; omega, by dsimp only; omega, fun z => absurd (show (0 : Int) = 1 from z) (by decide)⟩
    · rw [if_neg d]
      exact ⟨Or.inl rfl, Int.le_refl _, p1, fun z => absurd (show (0 : Int) = 1 from z) (by decide)⟩
theorem rdo_bd {o : jx_St} (h : Txo o) {p : Int} (p0 : 0 ≤ p) (p1 : p < o 1 0) : ((rdo (chr o) p).1 = 0 ∨ (rdo (chr o) p).1 = 1) ∧ p ≤ (rdo (chr o) p).2 ∧ (rdo (chr o) p).2 ≤ o 1 0 ∧ ((rdo (chr o) p).1 = 1 → p < (rdo (chr o) p).2 ∧ ∀ k, 0 ≤ k → k < wW (chr o) p → 0 ≤ nu (chr o) (p + 1) k ∧ nu (chr o) (p + 1) k ≤ 99) := by
  have w0 : 0 ≤ wW (chr o) p := by unfold wW; split <;> decide
  unfold rdo
  by_cases c : chr o p = 43 ∨ chr o p = 45
  · rw [if_pos c]
    obtain ⟨r1, r2, r3, r4⟩ := rdr_bd h (p := p + 1) w0 (wW (chr o) p).toNat 0 (Int.le_refl _) (by omega) (by show 0 ≤ p + 1; omega) (by show p + 1 ≤ o 1 0; omega)
    have e : pk (chr o) (p + 1) (0 : Int).toNat = p + 1 := rfl
    rw [e] at r2
    exact ⟨r1, by omega, r3, fun z => ⟨by omega, r4 z⟩⟩
  · rw [if_neg c]
    exact ⟨Or.inl rfl, Int.le_refl _, by dsimp only; omega, fun z => absurd (show (0 : Int) = 1 from z) (by decide)⟩
/-- which number is wrong -/
def wrN (c : Int → Int) (p : Int) : Int := if 31 ≤ nu c (p + 1) 0 then 0 else if wP c p = 1 ∧ nu c (p + 1) 3 < nu c (p + 1) 1 then 1 else if wP c p = 1 ∧ nu c (p + 1) 4 < nu c (p + 1) 2 then 2 else -1
def wy (c d : Int → Int) (p : Int) : Int := if (rdo c p).1 = 0 then 1 else if wrN c p ≠ -1 then 2 else if (if d (nu c (p + 1) 0) ≠ 0 then (1 : Int) else 0) = wP c p then 3 else 0
def cz (c : Int → Int) (p : Int) : Int := if (rdo c p).1 = 0 then (rdo c p).2 - p else wrN c p
theorem wrN_bd (c : Int → Int) (p : Int) : -1 ≤ wrN c p ∧ wrN c p ≤ 2 := by
  unfold wrN
  split
  · decide
  · split
    · decide
    · split <;> decide
theorem wP_01 (c : Int → Int) (p : Int) : wP c p = 0 ∨ wP c p = 1 := by unfold wP; split <;> decide
theorem wW_5 {c : Int → Int} {p : Int} (h : wP c p = 1) : wW c p = 5 := by
  unfold wP at h
  unfold wW
  by_cases e : c p = 43
  · rw [if_pos e]
  · rw [if_neg e] at h; exact absurd h (by decide)
theorem p_number {Q : Int → Prop} {o : jx_St} {k : Int} (h0 : 0 ≤ k ∧ k < 5) (h : Q (o 2 k)) : wp_O_number Q o k := ⟨jx_inR (by omega) (by omega), by rw [jx_at_in h0.1 h0.2]; exact h⟩
theorem p_wrongNumber {Q : Int → Prop} {o : jx_St} {c : Int → Int} {p : Int} (h3 : o 3 0 = wP c p) (hn : ∀ k, 0 ≤ k → k < wW c p → o 2 k = nu c (p + 1) k ∧ 0 ≤ nu c (p + 1) k ∧ nu c (p + 1) k ≤ 99) (h : Q (wrN c p)) : wp_O_wrongNumber Q o := by
  have w1 : 1 ≤ wW c p := by unfold wW; split <;> decide
  obtain ⟨e0, b0, b0'⟩ := hn 0 (Int.le_refl _) (by omega)
  have pR : jx_R (o 3 0) := by rw [h3]; rcases wP_01 c p with z | z <;> rw [z] <;> exact jx_inR (by decide) (by decide)
  refine p_number (by decide) ?_
  rw [e0]
  unfold wrN at h
  refine ⟨jx_inR (by omega) (by omega), fun q => ?_, fun q => ?_⟩
  · rw [if_neg (by omega)] at h
    refine ⟨pR, fun z => ?_, fun z => ?_⟩
    · rw [h3] at z
      rw [if_neg (by omega), if_neg (by omega)] at h
      refine ⟨pR, fun _ => h, fun y => absurd (h3.trans z) y⟩
    · have z1 : wP c p = 1 := by rcases wP_01 c p with y | y; exact absurd (h3.trans y) z; exact y
      have w5 := wW_5 z1
      obtain ⟨e1, b1, b1'⟩ := hn 1 (by decide) (by omega)
      obtain ⟨e2, b2, b2'⟩ := hn 2 (by decide) (by omega)
      obtain ⟨e3, b3, b3'⟩ := hn 3 (by decide) (by omega)
      obtain ⟨e4, b4, b4'⟩ := hn 4 (by decide) (by omega)
      refine p_number (by decide) (p_number (by decide) ?_)
      rw [e1, e3]
      refine ⟨jx_inR (by omega) (by omega), jx_inR (by omega) (by omega), fun y => ?_, fun y => ?_⟩
      · rw [if_neg (by omega)] at h
        refine ⟨pR, fun x => absurd x z, fun _ => p_number (by decide) (p_number (by decide) ?_)⟩
        rw [e2, e4]
        refine ⟨jx_inR (by omega) (by omega), jx_inR (by omega) (by omega), fun x => ?_, fun x => ?_⟩
        · rw [if_neg (by omega)] at h; exact h
        · rw [if_pos (by omega)] at h; exact h
      · rw [if_pos (by omega)] at h; exact h
  · rw [if_pos (by omega)] at h; exact h
theorem p_reasonAgainst {Q : Int → jx_St → Prop} {o : jx_St} {d : Int → Int} {p : Int} (h : Txo o) (p0 : 0 ≤ p) (p1 : p < o 1 0)
    (hQ : ∀ o', (∀ k, k ≠ 2 → k ≠ 3 → k ≠ 4 → k ≠ 8 → o' k = o k) → o' 4 0 = (rdo (chr o) p).2 → o' 8 0 = cz (chr o) p → jx_R (cz (chr o) p) → (wy (chr o) d p = 0 → o' 2 0 = nu (chr o) (p + 1) 0 ∧ nb (nu (chr o) (p + 1) 0)) → Q (wy (chr o) d p) o') : wp_O_reasonAgainst Q o p (bD d) := by
  have L1 := h.2.1
  obtain ⟨r1, r2, r3, r4⟩ := rdo_bd h p0 p1
  have wb := wrN_bd (chr o) p
  have czR : jx_R (cz (chr o) p) := by unfold cz; split <;> exact jx_inR (by omega) (by omega)
  refine p_read h p0 (by omega) (fun o1 q1 q2 q3 q4 => ?_)
  have n8 : ∀ v k, k ≠ 8 → jx_su o1 8 0 v k = o1 k := fun v k hk => by funext j; exact jx_su_ne hk
  have fr : ∀ v k, k ≠ 2 → k ≠ 3 → k ≠ 4 → k ≠ 8 → jx_su o1 8 0 v k = o k := fun v k k2 k3 k4 k8 => by rw [n8 v k k8, q1 k k2 k3 k4]
  rcases r1 with z | z
  · have ey : wy (chr o) d p = 1 := by unfold wy; rw [if_pos z]
    have ec : cz (chr o) p = (rdo (chr o) p).2 - p := by unfold cz; rw [if_pos z]
    rw [z]
    refine c0 ?_
    have := hQ (jx_su o1 8 0 (o1 4 0 - p)) (fr _) (by rw [n8 _ 4 (by decide)]; exact q3) (by rw [jx_su_eq, q3, ec]) czR (fun y => by rw [ey] at y; exact absurd y (by decide))
    rw [ey] at this
    exact this
  · have nz : ¬ (rdo (chr o) p).1 = 0 := by omega
    obtain ⟨s1, s2⟩ := r4 z
    have q4' := q4 z
    have w1 : 1 ≤ wW (chr o) p := by unfold wW; split <;> decide
    have ec : cz (chr o) p = wrN (chr o) p := by unfold cz; rw [if_neg nz]
    rw [z]
    refine c1 (p_wrongNumber q2 (fun k k0 k1 => ⟨q4' k k0 k1, s2 k k0 k1⟩) ?_)
    rw [jx_su_eq]
    refine ⟨jx_inR (by omega) (by omega), fun y => ?_, fun y => ?_⟩
    · -- it is right
      have hn0 : nb (nu (chr o) (p + 1) 0) := by
        have := s2 0 (Int.le_refl _) (by omega)
        refine ⟨this.1, ?_⟩
        unfold wrN at y
        by_cases c : 31 ≤ nu (chr o) (p + 1) 0
        · rw [if_pos c] at y; exact absurd y (by decide)
        · omega
      have e2 : jx_su o1 8 0 (wrN (chr o) p) 2 0 = nu (chr o) (p + 1) 0 := by rw [n8 _ 2 (by decide)]; exact q4' 0 (Int.le_refl _) (by omega)
      have e3 : jx_su o1 8 0 (wrN (chr o) p) 3 0 = wP (chr o) p := by rw [n8 _ 3 (by decide)]; exact q2
      have pR : jx_R (wP (chr o) p) := by rcases wP_01 (chr o) p with x | x <;> rw [x] <;> exact jx_inR (by decide) (by decide)
      refine p_number (by decide) ?_
      rw [e2, bD_test hn0]
      have hq : ∀ t, t = (if d (nu (chr o) (p + 1) 0) ≠ 0 then (1 : Int) else 0) → wp_O_reasonAgainst_56 Q p (bD d) (jx_su o1 8 0 (wrN (chr o) p)) t := fun t ht => by
        have ey : wy (chr o) d p = if t = wP (chr o) p then 3 else 0 := by
          unfold wy; rw [if_neg nz, if_neg (fun x => x y), ← ht]
        have := hQ (jx_su o1 8 0 (wrN (chr o) p)) (fr _) (by rw [n8 _ 4 (by decide)]; exact q3) (by rw [jx_su_eq, ec]) czR (fun _ => ⟨e2, hn0⟩)
        rw [ey] at this
        have tR : jx_R t := by rw [ht]; split <;> exact jx_inR (by decide) (by decide)
        unfold wp_O_reasonAgainst_56
        rw [e3]
        refine ⟨tR, pR, fun x => ?_, fun x => ?_⟩
        · rw [if_pos x] at this; exact this
        · rw [if_neg x] at this; exact this
      by_cases c : d (nu (chr o) (p + 1) 0) ≠ 0
      · rw [if_pos c]
        exact ⟨R_lit 1 (by decide), fun _ => hq 1 (by rw [if_pos c]), fun x => absurd rfl x⟩
      · rw [if_neg c]
        exact ⟨R_lit 0 (by decide), fun x => absurd x (by decide), fun _ => hq 0 (by rw [if_neg c])⟩
    · have ey : wy (chr o) d p = 2 := by unfold wy; rw [if_neg nz, if_pos y]
      have := hQ (jx_su o1 8 0 (wrN (chr o) p)) (fr _) (by rw [n8 _ 4 (by decide)]; exact q3) (by rw [jx_su_eq, ec]) czR (fun x => by rw [ey] at x; exact absurd x (by decide))
      rw [ey] at this
      exact this
/-- what comes out of a text: the place, the reason, the cause, how many orders -/
def exm (c : Int → Int) (L : Int) : Nat → Int → (Int → Int) → Int → Int × Int × Int × Int
  | 0, p, _, k => (p, 0, 0, k)
  | f + 1, p, d, k => if p < L then (if wy c d p = 0 then exm c L f (rdo c p).2 (fpD d (nu c (p + 1) 0)) (k + 1) else (p, wy c d p, cz c p, k)) else (p, 0, 0, k)
theorem p_examine {Q : jx_St → Prop} {o : jx_St} {d : Int → Int} (h : Txo o)
    (hQ : ∀ o', o' 0 = o 0 → o' 1 = o 1 → o' 6 0 = (exm (chr o) (o 1 0) 60 0 d 0).1 → o' 7 0 = (exm (chr o) (o 1 0) 60 0 d 0).2.1 → ((exm (chr o) (o 1 0) 60 0 d 0).2.1 ≠ 0 → o' 8 0 = (exm (chr o) (o 1 0) 60 0 d 0).2.2.1 ∧ jx_R (o' 8 0)) → o' 5 0 = (exm (chr o) (o 1 0) 60 0 d 0).2.2.2 → jx_R (o' 7 0) → jx_R (o' 5 0) → Q o') : wp_O_examine Q o (bD d) := by
  have L0 := h.1
  have L1 := h.2.1
  generalize hRR : exm (chr o) (o 1 0) 60 0 d 0 = R at hQ
  have wyR : ∀ d p, jx_R (wy (chr o) d p) := fun d p => by
    unfold wy
    by_cases z1 : (rdo (chr o) p).1 = 0
    · rw [if_pos z1]; exact R_lit 1 (by decide)
    · rw [if_neg z1]
      by_cases z2 : wrN (chr o) p ≠ -1
      · rw [if_pos z2]; exact R_lit 2 (by decide)
      · rw [if_neg z2]
        by_cases z3 : (if d (nu (chr o) (p + 1) 0) ≠ 0 then (1 : Int) else 0) = wP (chr o) p
        · rw [if_pos z3]; exact R_lit 3 (by decide)
        · rw [if_neg z3]; exact R_lit 0 (by decide)
  refine jx_loop (fun v => ∃ d', v.2.1 = bD d' ∧ 0 ≤ v.2.2 ∧ v.2.2 ≤ 60 ∧ v.2.2 ≤ v.1 6 0 ∧ v.1 6 0 ≤ o 1 0 ∧ v.1 0 = o 0 ∧ v.1 1 = o 1 ∧ v.1 7 0 = 0 ∧ 0 ≤ v.1 5 0 ∧ v.1 5 0 ≤ v.2.2 ∧ exm (chr o) (o 1 0) (60 - v.2.2).toNat (v.1 6 0) d' (v.1 5 0) = R) (fun v => (60 - v.2.2).toNat) (fun B v hI hB => ?_) ⟨d, rfl, Int.le_refl _, by dsimp only; omega, ?_⟩
  · obtain ⟨o1, s, t⟩ := v
    obtain ⟨d', a1, a2, a3, a4, a5, a6, a7, a8, a9, a10, a11⟩ := hI
    dsimp only at a1 a2 a3 a4 a5 a6 a7 a8 a9 a10 a11 ⊢
    subst a1
    have ef : chr o1 = chr o := by funext j; unfold chr; rw [a7, a6]
    have h1 : Txo o1 := by unfold Txo at h ⊢; rw [a7, a6]; exact h
    have oR : jx_R (o1 1 0) := by rw [a7]; exact jx_inR (by omega) (by omega)
    have pR : jx_R (o1 6 0) := jx_inR (by omega) (by omega)
    have stop : (o1 6 0, 0, 0, o1 5 0) = R → Q o1 := fun e => by
      have e1 : R.1 = o1 6 0 := by rw [← e]
      have e2 : R.2.1 = 0 := by rw [← e]
      have e4 : R.2.2.2 = o1 5 0 := by rw [← e]
      exact hQ o1 a6 a7 e1.symm (a8.trans e2.symm) (fun z => absurd e2 z) e4.symm (by rw [a8]; exact R_lit 0 (by decide)) (jx_inR (by omega) (by omega))
    refine ⟨jx_inR (by omega) (by omega), fun q => ⟨pR, oR, fun y => ?_, fun y => ?_⟩, fun q => ?_⟩
    · rw [a7] at y
      rw [show (60 - t).toNat = (60 - (t + 1)).toNat + 1 by omega] at a11
      simp only [exm] at a11
      rw [if_pos y] at a11
      refine p_reasonAgainst h1 (by omega) (by rw [a7]; exact y) (fun o2 q1 q2 q3 q4 q5 => ?_)
      rw [ef] at q2 q3 q4 q5 ⊢
      rw [jx_su_eq]
      have rb := rdo_bd h (p := o1 6 0) (by omega) y
      have m5 : o2 5 = o1 5 := q1 5 (by decide) (by decide) (by decide) (by decide)
      have m6 : o2 6 = o1 6 := q1 6 (by decide) (by decide) (by decide) (by decide)
      have m0 : o2 0 = o 0 := by rw [q1 0 (by decide) (by decide) (by decide) (by decide), a6]
      have m1 : o2 1 = o 1 := by rw [q1 1 (by decide) (by decide) (by decide) (by decide), a7]
      refine ⟨wyR _ _, fun z => ?_, fun z => ?_⟩
      · rw [if_pos z] at a11
        obtain ⟨g1, g2⟩ := q5 z
        refine p_number (by decide) ?_
        have e2 : jx_su o2 7 0 (wy (chr o) d' (o1 6 0)) 2 0 = nu (chr o) (o1 6 0 + 1) 0 := by rw [jx_su_ne (by decide)]; exact g1
        have e5 : jx_su o2 7 0 (wy (chr o) d' (o1 6 0)) 5 0 = o1 5 0 := by rw [jx_su_ne (by decide), m5]
        have e4 : jx_su (jx_su o2 7 0 (wy (chr o) d' (o1 6 0))) 5 0 (o1 5 0 + 1) 4 0 = (rdo (chr o) (o1 6 0)).2 := by rw [jx_su_ne (by decide), jx_su_ne (by decide)]; exact q2
        have rdlt : o1 6 0 < (rdo (chr o) (o1 6 0)).2 := by
          rcases rb.1 with w | w
          · unfold wy at z; rw [if_pos w] at z; exact absurd z (by decide)
          · exact (rb.2.2.2 w).1
        rw [e2, e5, e4]
        refine hB _ ⟨fpD d' (nu (chr o) (o1 6 0 + 1) 0), by dsimp only; exact bD_xor g2, by dsimp only; omega, by dsimp only; omega, ?_, ?_, ?_, ?_, ?_, ?_, ?_, ?_⟩ (by dsimp only; omega)
        · dsimp only; rw [jx_su_eq]; omega
        · dsimp only; rw [jx_su_eq]; exact rb.2.2.1
        · dsimp only; rw [← m0]; funext j; rw [jx_su_ne (by decide), jx_su_ne (by decide), jx_su_ne (by decide)]
        · dsimp only; rw [← m1]; funext j; rw [jx_su_ne (by decide), jx_su_ne (by decide), jx_su_ne (by decide)]
        · dsimp only; rw [jx_su_ne (by decide), jx_su_ne (by decide), jx_su_eq, z]
        · dsimp only; rw [jx_su_ne (by decide), jx_su_eq]; omega
        · dsimp only; rw [jx_su_ne (by decide), jx_su_eq]; omega
        · dsimp only
          have w6 : ∀ X : jx_St, jx_su X 6 0 (rdo (chr o) (o1 6 0)).2 6 0 = (rdo (chr o) (o1 6 0)).2 := fun X => jx_su_eq
          have w5 : ∀ (X : jx_St) u, jx_su (jx_su X 5 0 (o1 5 0 + 1)) 6 0 u 5 0 = o1 5 0 + 1 := fun X u => by rw [jx_su_ne (by decide), jx_su_eq]
          rw [w6, w5]
          exact a11
      · rw [if_neg z] at a11
        have e1 : R.1 = o1 6 0 := by rw [← a11]
        have e2 : R.2.1 = wy (chr o) d' (o1 6 0) := by rw [← a11]
        have e3 : R.2.2.1 = cz (chr o) (o1 6 0) := by rw [← a11]
        have e4 : R.2.2.2 = o1 5 0 := by rw [← a11]
        have f8 : jx_su o2 7 0 (wy (chr o) d' (o1 6 0)) 8 0 = cz (chr o) (o1 6 0) := by rw [jx_su_ne (by decide)]; exact q3
        refine hQ _ ?_ ?_ ?_ ?_ (fun _ => ⟨by rw [f8, e3], by rw [f8]; exact q4⟩) ?_ ?_ ?_
        · rw [← m0]; funext j; exact jx_su_ne (by decide)
        · rw [← m1]; funext j; exact jx_su_ne (by decide)
        · rw [jx_su_ne (by decide), m6, e1]
        · rw [jx_su_eq, e2]
        · rw [jx_su_ne (by decide), m5, e4]
        · rw [jx_su_eq]; exact wyR _ _
        · rw [jx_su_ne (by decide), m5]; exact jx_inR (by omega) (by omega)
    · rw [a7] at y
      rw [show (60 - t).toNat = (60 - (t + 1)).toNat + 1 by omega] at a11
      simp only [exm] at a11
      rw [if_neg y] at a11
      exact stop a11
    · rw [show (60 - t).toNat = 0 by omega] at a11
      exact stop a11
  · have e6 : jx_su (jx_su (jx_su o 5 0 0) 6 0 0) 7 0 0 6 0 = 0 := by rw [jx_su_ne (by decide), jx_su_eq]
    have e5 : jx_su (jx_su (jx_su o 5 0 0) 6 0 0) 7 0 0 5 0 = 0 := by rw [jx_su_ne (by decide), jx_su_ne (by decide), jx_su_eq]
    dsimp only
    rw [e6, e5]
    exact ⟨Int.le_refl _, L0, by funext j; rw [jx_su_ne (by decide), jx_su_ne (by decide), jx_su_ne (by decide)], by funext j; rw [jx_su_ne (by decide), jx_su_ne (by decide), jx_su_ne (by decide)], jx_su_eq, Int.le_refl _, Int.le_refl _, hRR⟩
