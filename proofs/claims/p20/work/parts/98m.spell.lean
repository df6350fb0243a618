/-! ===== the property: low, digits, the text of one order ===== -/
theorem ii_of {a : Int} (h0 : 0 ≤ a) (h1 : a < 2147483648) : (jx_i a).toInt = a := Int32.toInt_ofInt_of_le (by omega) (by omega)
theorem quo_i {a n : Int} (h0 : 0 ≤ a) (h1 : a < 2147483648) (n0 : 0 < n) (n1 : n < 2147483648) : jx_i a / jx_i n = jx_i (a / n) := by
  have hi := ii_of h0 h1
  have hn := ii_of (Int.le_of_lt n0) n1
  have hne : jx_i n ≠ -1 := fun e => by
    have h2 := congrArg Int32.toInt e
    rw [hn, show (-1 : Int32).toInt = -1 by decide] at h2
    omega
  have h3 := Int32.toInt_div_of_ne_right (jx_i a) (jx_i n) hne
  rw [hi, hn, Int.tdiv_eq_ediv_of_nonneg h0] at h3
  rw [← Int32.ofInt_toInt (jx_i a / jx_i n), h3]
  rfl
theorem rem_pos {a n : Int} (h0 : 0 ≤ a) (h1 : a < 2147483648) (n0 : 0 < n) (n1 : n < 2147483648) : jx_rem a n = a % n := by
  unfold jx_rem
  rw [quo_i h0 h1 n0 n1, jx_i_mul, jx_i_sub]
  have e : a - a / n * n = a % n := by rw [Int.emod_def, Int.mul_comm n]
  rw [e]
  have b0 := Int.emod_nonneg a (show n ≠ 0 by omega)
  have b1 := Int.emod_lt_of_pos a n0
  exact ii_of b0 (by omega)
theorem div_pos {a n : Int} (h0 : 0 ≤ a) (h1 : a < 2147483648) (n0 : 0 < n) (n1 : n < 2147483648) : jx_div a n = a / n := by
  unfold jx_div
  rw [quo_i h0 h1 n0 n1]
  have b0 := Int.ediv_nonneg h0 (Int.le_of_lt n0)
  have b1 := Int.ediv_le_self n h0
  exact ii_of b0 (by omega)
theorem and31 (v : Int) : 0 ≤ jx_and v 2147483647 := by
  have hm : (jx_i v &&& jx_i 2147483647).toBitVec.msb = false := by
    rw [Int32.toBitVec_and, BitVec.msb_and, show (jx_i 2147483647).toBitVec.msb = false by decide, Bool.and_false]
  show 0 ≤ (jx_i v &&& jx_i 2147483647).toBitVec.toInt
  rw [BitVec.toInt_eq_toNat_of_msb hm]
  omega
theorem q_low {Q : Int → Prop} {v n : Int} (n0 : 0 < n) (n1 : n < 2147483648) (h : ∀ r, 0 ≤ r → r < n → Q r) : wp_L_low Q v n := by
  refine ⟨fun e => ?_, ?_⟩
  · have h2 := congrArg Int32.toInt e
    rw [ii_of (Int.le_of_lt n0) n1, show (0 : Int32).toInt = 0 by decide] at h2
    omega
  · have a0 := and31 v
    have a1 := (rr_and v 2147483647).2
    rw [rem_pos a0 (by omega) n0 n1]
    exact h _ (Int.emod_nonneg _ (by omega)) (Int.emod_lt_of_pos _ n0)
/-! a text as a list -/
def Dg (n : Int) : List Int := if n < 10 then [48 + n] else [48 + n / 10, 48 + n % 10]
def Tl (o : jx_St) (l : List Int) : Prop := o 1 0 = (l.length : Int) ∧ ∀ (j : Nat) (k : Int), l[j]? = some k → o 0 (j : Int) = k
def cT (l : List Int) (j : Int) : Int := if 0 ≤ j then (l[j.toNat]?).getD 0 else 0
theorem Tl.snoc {o o' : jx_St} {l : List Int} {k : Int} (h : Tl o l) (g : Ty o o' k) : Tl o' (l ++ [k]) := by
  obtain ⟨h1, h2⟩ := h
  obtain ⟨g1, g2⟩ := g
  refine ⟨by rw [g1, h1, List.length_append]; rfl, fun j x hj => ?_⟩
  rw [g2, h1]
  by_cases c : j < l.length
  · rw [if_neg (by omega)]
    rw [List.getElem?_append_left c] at hj
    exact h2 j x hj
  · have hl := (List.getElem?_eq_some_iff.mp hj).1
    rw [List.length_append] at hl
    have e : j = l.length := by simp only [List.length_cons, List.length_nil] at hl; omega
    subst e
    rw [if_pos rfl]
    rw [List.getElem?_append_right (Nat.le_refl _), Nat.sub_self] at hj
    exact Option.some.inj hj
theorem Tl.nil (o : jx_St) : Tl (jx_su o 1 0 0) [] := ⟨jx_su_eq, fun j k h => by simp at h⟩
theorem tl_chr {o : jx_St} {l : List Int} (h : Tl o l) : chr o = cT l := by
  obtain ⟨h1, h2⟩ := h
  funext j
  unfold chr cT
  rw [h1]
  by_cases c : 0 ≤ j
  · rw [if_pos c]
    by_cases e : j < (l.length : Int)
    · rw [if_pos ⟨c, e⟩]
      have hj : j.toNat < l.length := by omega
      have e2 : l[j.toNat]? = some (l[j.toNat]) := List.getElem?_eq_getElem hj
      have h3 := h2 j.toNat _ e2
      rw [Int.toNat_of_nonneg c] at h3
      rw [e2, h3]
      rfl
    · rw [if_neg (fun z => e z.2), List.getElem?_eq_none (by omega)]
      rfl
  · rw [if_neg (fun z => c z.1), if_neg c]
theorem Tl.txo {o : jx_St} {l : List Int} (h : Tl o l) (hl : l.length ≤ 60) (hk : ∀ k ∈ l, 32 ≤ k ∧ k ≤ 126) : Txo o := by
  obtain ⟨h1, h2⟩ := h
  refine ⟨by omega, by omega, fun j j0 j1 => ?_⟩
  have hj : j.toNat < l.length := by omega
  have e : l[j.toNat]? = some (l[j.toNat]) := List.getElem?_eq_getElem hj
  have := h2 j.toNat _ e
  rw [Int.toNat_of_nonneg j0] at this
  rw [this]
  exact hk _ (List.getElem_mem hj)
theorem cT_app {A X : List Int} {i : Int} (h : 0 ≤ i) : cT (A ++ X) ((A.length : Int) + i) = cT X i := by
  unfold cT
  rw [if_pos (by omega), if_pos h, show ((A.length : Int) + i).toNat = A.length + i.toNat by omega, List.getElem?_append_right (by omega), Nat.add_sub_cancel_left]
theorem Dg_len {n : Int} : (Dg n).length = 1 ∨ (Dg n).length = 2 := by unfold Dg; split; exact Or.inl rfl; exact Or.inr rfl
theorem Dg_mem {n k : Int} (h0 : 0 ≤ n) (h1 : n ≤ 99) (hk : k ∈ Dg n) : 48 ≤ k ∧ k ≤ 57 := by
  unfold Dg at hk
  split at hk
  · have := List.mem_singleton.mp hk; omega
  · rcases List.mem_cons.mp hk with e | e
    · omega
    · have := List.mem_singleton.mp e; omega
theorem nm_D {A B : List Int} {n e : Int} (h0 : 0 ≤ n) (h1 : n ≤ 99) (he : ¬ (48 ≤ e ∧ e ≤ 57)) : (48 ≤ cT (A ++ (Dg n ++ e :: B)) (A.length : Int) ∧ cT (A ++ (Dg n ++ e :: B)) (A.length : Int) ≤ 57) ∧ nm (cT (A ++ (Dg n ++ e :: B))) (A.length : Int) = (n, (A.length : Int) + ((Dg n).length : Int)) ∧ cT (A ++ (Dg n ++ e :: B)) ((A.length : Int) + ((Dg n).length : Int)) = e := by
  have z0 := cT_app (A := A) (X := Dg n ++ e :: B) (Int.le_refl 0)
  rw [Int.add_zero] at z0
  have z1 := cT_app (A := A) (X := Dg n ++ e :: B) (show (0 : Int) ≤ 1 by decide)
  have z2 := cT_app (A := A) (X := Dg n ++ e :: B) (show (0 : Int) ≤ 2 by decide)
  unfold nm
  by_cases c : n < 10
  · have d : Dg n = [48 + n] := if_pos c
    rw [d] at z0 z1 ⊢
    have e0 : cT ([48 + n] ++ e :: B) 0 = 48 + n := rfl
    have e1 : cT ([48 + n] ++ e :: B) 1 = e := rfl
    rw [e0] at z0
    rw [e1] at z1
    rw [z0, z1]
    refine ⟨⟨by omega, by omega⟩, ?_, z1⟩
    rw [if_neg he]
    refine Prod.ext ?_ rfl
    show 48 + n - 48 = n
    omega
  · have d : Dg n = [48 + n / 10, 48 + n % 10] := if_neg c
    rw [d] at z0 z1 z2 ⊢
    have e0 : cT ([48 + n / 10, 48 + n % 10] ++ e :: B) 0 = 48 + n / 10 := rfl
    have e1 : cT ([48 + n / 10, 48 + n % 10] ++ e :: B) 1 = 48 + n % 10 := rfl
    have e2 : cT ([48 + n / 10, 48 + n % 10] ++ e :: B) 2 = e := rfl
    rw [e0] at z0
    rw [e1] at z1
    rw [e2] at z2
    rw [z0, z1]
    refine ⟨⟨by omega, by omega⟩, ?_, z2⟩
    rw [if_pos (by omega)]
    refine Prod.ext ?_ rfl
    show (48 + n / 10 - 48) * 10 + (48 + n % 10) - 48 = n
    omega
theorem rdr_step {c : Int → Int} {p w i q n r : Int} {k : Nat} (i0 : 0 ≤ i) (hp : pk c p i.toNat = q) (hd : 48 ≤ c q ∧ c q ≤ 57) (hn : nm c q = (n, r)) (he : c r = dl w i) : rdr c p w (k + 1) i = rdr c p w k (i + 1) ∧ nu c p i = n ∧ pk c p (i + 1).toNat = r + 1 := by
  refine ⟨?_, ?_, ?_⟩
  · simp only [rdr]
    rw [hp, if_pos hd, hn]
    dsimp only
    rw [if_pos he]
  · unfold nu
    rw [hp, hn]
  · rw [pk_succ i0, hp, hn]
def Wt (b v w x y : Int) : List Int := 43 :: (Dg b ++ 44 :: (Dg v ++ 44 :: (Dg w ++ 44 :: (Dg x ++ 44 :: (Dg y ++ [59])))))
theorem Wt_read {b v w x y : Int} (hb : 0 ≤ b ∧ b ≤ 99) (hv : 0 ≤ v ∧ v ≤ 99) (hw : 0 ≤ w ∧ w ≤ 99) (hx : 0 ≤ x ∧ x ≤ 99) (hy : 0 ≤ y ∧ y ≤ 99) : rdo (cT (Wt b v w x y)) 0 = (1, ((Wt b v w x y).length : Int)) ∧ cT (Wt b v w x y) 0 = 43 ∧ nu (cT (Wt b v w x y)) 1 0 = b ∧ nu (cT (Wt b v w x y)) 1 1 = v ∧ nu (cT (Wt b v w x y)) 1 2 = w ∧ nu (cT (Wt b v w x y)) 1 3 = x ∧ nu (cT (Wt b v w x y)) 1 4 = y := by
  have c43 : cT (Wt b v w x y) 0 = 43 := rfl
  have n44 : ¬ ((48 : Int) ≤ 44 ∧ (44 : Int) ≤ 57) := by decide
  have n59 : ¬ ((48 : Int) ≤ 59 ∧ (59 : Int) ≤ 57) := by decide
  obtain ⟨A1, hA1⟩ : ∃ A : List Int, A = [43] := ⟨_, rfl⟩
  obtain ⟨A2, hA2⟩ : ∃ A : List Int, A = A1 ++ Dg b ++ [44] := ⟨_, rfl⟩
  obtain ⟨A3, hA3⟩ : ∃ A : List Int, A = A2 ++ Dg v ++ [44] := ⟨_, rfl⟩
  obtain ⟨A4, hA4⟩ : ∃ A : List Int, A = A3 ++ Dg w ++ [44] := ⟨_, rfl⟩
  obtain ⟨A5, hA5⟩ : ∃ A : List Int, A = A4 ++ Dg x ++ [44] := ⟨_, rfl⟩
  have l1 : (A1.length : Int) = 1 := by rw [hA1]; rfl
  have l2 : (A2.length : Int) = A1.length + (Dg b).length + 1 := by rw [hA2]; simp; omega
  have l3 : (A3.length : Int) = A2.length + (Dg v).length + 1 := by rw [hA3]; simp; omega
  have l4 : (A4.length : Int) = A3.length + (Dg w).length + 1 := by rw [hA4]; simp; omega
  have l5 : (A5.length : Int) = A4.length + (Dg x).length + 1 := by rw [hA5]; simp; omega
  have w1 : Wt b v w x y = A1 ++ (Dg b ++ 44 :: (Dg v ++ 44 :: (Dg w ++ 44 :: (Dg x ++ 44 :: (Dg y ++ [59]))))) := by rw [hA1]; rfl
  have w2 : Wt b v w x y = A2 ++ (Dg v ++ 44 :: (Dg w ++ 44 :: (Dg x ++ 44 :: (Dg y ++ [59])))) := by rw [hA2, w1]; simp [List.append_assoc]
  have w3 : Wt b v w x y = A3 ++ (Dg w ++ 44 :: (Dg x ++ 44 :: (Dg y ++ [59]))) := by rw [hA3, w2]; simp [List.append_assoc]
  have w4 : Wt b v w x y = A4 ++ (Dg x ++ 44 :: (Dg y ++ [59])) := by rw [hA4, w3]; simp [List.append_assoc]
  have w5 : Wt b v w x y = A5 ++ (Dg y ++ 59 :: []) := by rw [hA5, w4]; simp [List.append_assoc]
  have lW : ((Wt b v w x y).length : Int) = A5.length + (Dg y).length + 1 := by rw [w5]; simp; omega
  have g1 := nm_D (A := A1) (B := Dg v ++ 44 :: (Dg w ++ 44 :: (Dg x ++ 44 :: (Dg y ++ [59])))) hb.1 hb.2 n44
  have g2 := nm_D (A := A2) (B := Dg w ++ 44 :: (Dg x ++ 44 :: (Dg y ++ [59]))) hv.1 hv.2 n44
  have g3 := nm_D (A := A3) (B := Dg x ++ 44 :: (Dg y ++ [59])) hw.1 hw.2 n44
  have g4 := nm_D (A := A4) (B := Dg y ++ [59]) hx.1 hx.2 n44
  have g5 := nm_D (A := A5) (B := []) hy.1 hy.2 n59
  rw [← w1] at g1
  rw [← w2] at g2
  rw [← w3] at g3
  rw [← w4] at g4
  rw [← w5] at g5
  generalize Wt b v w x y = T at *
  have s1 := rdr_step (c := cT T) (p := 1) (w := 5) (i := 0) (k := 4) (Int.le_refl 0) (show pk (cT T) 1 0 = (A1.length : Int) from l1.symm) g1.1 g1.2.1 g1.2.2
  have s2 := rdr_step (c := cT T) (p := 1) (w := 5) (i := 1) (k := 3) (by decide) (show pk (cT T) 1 (1 : Int).toNat = (A2.length : Int) from s1.2.2.trans l2.symm) g2.1 g2.2.1 g2.2.2
  have s3 := rdr_step (c := cT T) (p := 1) (w := 5) (i := 2) (k := 2) (by decide) (show pk (cT T) 1 (2 : Int).toNat = (A3.length : Int) from s2.2.2.trans l3.symm) g3.1 g3.2.1 g3.2.2
  have s4 := rdr_step (c := cT T) (p := 1) (w := 5) (i := 3) (k := 1) (by decide) (show pk (cT T) 1 (3 : Int).toNat = (A4.length : Int) from s3.2.2.trans l4.symm) g4.1 g4.2.1 g4.2.2
  have s5 := rdr_step (c := cT T) (p := 1) (w := 5) (i := 4) (k := 0) (by decide) (show pk (cT T) 1 (4 : Int).toNat = (A5.length : Int) from s4.2.2.trans l5.symm) g5.1 g5.2.1 g5.2.2
  refine ⟨?_, c43, s1.2.1, s2.2.1, s3.2.1, s4.2.1, s5.2.1⟩
  have ew : wW (cT T) 0 = 5 := by unfold wW; rw [c43, if_pos rfl]
  unfold rdo
  rw [if_pos (Or.inl c43), ew]
  show rdr (cT T) 1 5 5 0 = _
  rw [s1.1, show (0 : Int) + 1 = 1 from rfl, s2.1, show (1 : Int) + 1 = 2 from rfl, s3.1, show (2 : Int) + 1 = 3 from rfl, s4.1, show (3 : Int) + 1 = 4 from rfl, s5.1]
  simp only [rdr]
  refine Prod.ext rfl ?_
  show pk (cT T) 1 (5 : Int).toNat = _
  rw [lW]
  exact s5.2.2
theorem Wt_exm {b v w : Int} {d : Int → Int} (hb : 0 ≤ b ∧ b ≤ 30) (hv : 0 ≤ v ∧ v ≤ 89) (hw : 0 ≤ w ∧ w ≤ 89) : exm (cT (Wt b v w (v + 3) (w + 4))) ((Wt b v w (v + 3) (w + 4)).length : Int) 60 0 d 0 = if d b ≠ 0 then (0, 3, -1, 0) else (((Wt b v w (v + 3) (w + 4)).length : Int), 0, 0, 1) := by
  obtain ⟨r1, r2, n0, n1, n2, n3, n4⟩ := Wt_read (b := b) (v := v) (w := w) (x := v + 3) (y := w + 4) ⟨hb.1, by omega⟩ ⟨hv.1, by omega⟩ ⟨hw.1, by omega⟩ ⟨by omega, by omega⟩ ⟨by omega, by omega⟩
  have L0 : (0 : Int) < ((Wt b v w (v + 3) (w + 4)).length : Int) := by unfold Wt; rw [List.length_cons]; omega
  generalize Wt b v w (v + 3) (w + 4) = T at *
  have hwP : wP (cT T) 0 = 1 := by unfold wP; rw [r2, if_pos rfl]
  have hwr : wrN (cT T) 0 = -1 := by
    unfold wrN
    rw [show (0 : Int) + 1 = 1 from rfl, n0, n1, n2, n3, n4, if_neg (by omega), if_neg (by omega), if_neg (by omega)]
  have hwy : wy (cT T) d 0 = if d b ≠ 0 then 3 else 0 := by
    unfold wy
    rw [r1, hwr, hwP, show (0 : Int) + 1 = 1 from rfl, n0, if_neg (show ¬ (1 : Int) = 0 by decide), if_neg (by decide)]
    by_cases c : d b ≠ 0
    · rw [if_pos c, if_pos rfl, if_pos c]
    · rw [if_neg c, if_neg (by decide), if_neg c]
  have hcz : cz (cT T) 0 = -1 := by
    unfold cz
    rw [r1, if_neg (show ¬ (1 : Int) = 0 by decide), hwr]
  simp only [exm]
  rw [if_pos L0, hwy, hcz]
  by_cases c : d b ≠ 0
  · rw [if_pos c, if_neg (by decide), if_pos c]
  · rw [if_neg c, if_pos rfl, if_neg c, r1]
    dsimp only
    rw [if_neg (by omega)]
    rfl
