theorem nI_bv (a : Nat) : (nI a).toBitVec = BitVec.ofNat 32 a := rfl
theorem nI_an (a b : Nat) : nI a &&& nI b = nI (a &&& b) := by
  apply Int32.toBitVec_inj.mp
  show BitVec.ofNat 32 a &&& BitVec.ofNat 32 b = BitVec.ofNat 32 (a &&& b)
  rw [BitVec.ofNat_and]
theorem nI_ad (a b : Nat) : nI a + nI b = nI (a + b) := by
  apply Int32.toBitVec_inj.mp
  show BitVec.ofNat 32 a + BitVec.ofNat 32 b = BitVec.ofNat 32 (a + b)
  rw [BitVec.ofNat_add]
theorem nI_sb {a b : Nat} (h : b ≤ a) : nI a - nI b = nI (a - b) := by
  have e : nI (a - b) + nI b = nI a := by rw [nI_ad, Nat.sub_add_cancel h]
  rw [← e, Int32.add_sub_cancel]
theorem nI_u1 {a : Nat} (h : a < 4294967296) : jx_u (nI a) 1 = nI (a / 2) := by
  apply Int32.toBitVec_inj.mp
  apply BitVec.eq_of_toNat_eq
  show (BitVec.ofNat 32 a).toNat >>> 1 = (BitVec.ofNat 32 (a / 2)).toNat
  rw [BitVec.toNat_ofNat, BitVec.toNat_ofNat, Nat.shiftRight_eq_div_pow]
  omega
theorem nI_u2 {a : Nat} (h : a < 4294967296) : jx_u (nI a) 2 = nI (a / 4) := by
  apply Int32.toBitVec_inj.mp
  apply BitVec.eq_of_toNat_eq
  show (BitVec.ofNat 32 a).toNat >>> 2 = (BitVec.ofNat 32 (a / 4)).toNat
  rw [BitVec.toNat_ofNat, BitVec.toNat_ofNat, Nat.shiftRight_eq_div_pow]
  omega
theorem nI_u4 {a : Nat} (h : a < 4294967296) : jx_u (nI a) 4 = nI (a / 16) := by
  apply Int32.toBitVec_inj.mp
  apply BitVec.eq_of_toNat_eq
  show (BitVec.ofNat 32 a).toNat >>> 4 = (BitVec.ofNat 32 (a / 16)).toNat
  rw [BitVec.toNat_ofNat, BitVec.toNat_ofNat, Nat.shiftRight_eq_div_pow]
  omega
theorem nI_u8 {a : Nat} (h : a < 4294967296) : jx_u (nI a) 8 = nI (a / 256) := by
  apply Int32.toBitVec_inj.mp
  apply BitVec.eq_of_toNat_eq
  show (BitVec.ofNat 32 a).toNat >>> 8 = (BitVec.ofNat 32 (a / 256)).toNat
  rw [BitVec.toNat_ofNat, BitVec.toNat_ofNat, Nat.shiftRight_eq_div_pow]
  omega
theorem nI_u16 {a : Nat} (h : a < 4294967296) : jx_u (nI a) 16 = nI (a / 65536) := by
  apply Int32.toBitVec_inj.mp
  apply BitVec.eq_of_toNat_eq
  show (BitVec.ofNat 32 a).toNat >>> 16 = (BitVec.ofNat 32 (a / 65536)).toNat
  rw [BitVec.toNat_ofNat, BitVec.toNat_ofNat, Nat.shiftRight_eq_div_pow]
  omega
theorem pc_nat {x : Nat} (h : x < 2147483648) : jx_pc (nI x) = nI (q4 (q3 (q2 (q1 x)))) := by
  have l1 : x / 2 &&& 1431655765 ≤ x / 2 := Nat.and_le_left
  have e1 : nI x - (jx_u (nI x) 1 &&& 1431655765) = nI (q1 x) := by
    rw [nI_u1 (by omega), show (1431655765 : Int32) = nI 1431655765 from rfl, nI_an, nI_sb (by omega)]
    rfl
  have b1 : q1 x ≤ x := Nat.sub_le _ _
  have e2 : (nI (q1 x) &&& 858993459) + (jx_u (nI (q1 x)) 2 &&& 858993459) = nI (q2 (q1 x)) := by
    rw [nI_u2 (by omega), show (858993459 : Int32) = nI 858993459 from rfl, nI_an, nI_an, nI_ad]
    rfl
  have b2 : q2 (q1 x) ≤ 858993459 + 858993459 := Nat.add_le_add Nat.and_le_right Nat.and_le_right
  have e3 : (nI (q2 (q1 x)) + jx_u (nI (q2 (q1 x))) 4) &&& 252645135 = nI (q3 (q2 (q1 x))) := by
    rw [nI_u4 (by omega), show (252645135 : Int32) = nI 252645135 from rfl, nI_ad, nI_an]
    rfl
  have b3 : q3 (q2 (q1 x)) ≤ 252645135 := Nat.and_le_right
  have e4 : nI (q3 (q2 (q1 x))) + jx_u (nI (q3 (q2 (q1 x)))) 8 = nI (q3 (q2 (q1 x)) + q3 (q2 (q1 x)) / 256) := by
    rw [nI_u8 (by omega), nI_ad]
  have e5 : (nI (q3 (q2 (q1 x)) + q3 (q2 (q1 x)) / 256) + jx_u (nI (q3 (q2 (q1 x)) + q3 (q2 (q1 x)) / 256)) 16) &&& 63 = nI (q4 (q3 (q2 (q1 x)))) := by
    rw [nI_u16 (by omega), show (63 : Int32) = nI 63 from rfl, nI_ad, nI_an]
    rfl
  simp only [jx_pc]
  rw [e1, e2, e3, e4, e5]
def sN (c : Nat → Nat) : Nat → Nat
  | 0 => 0
  | k + 1 => sN c k + c k
def vN (c : Nat → Nat) : Nat → Nat
  | 0 => 0
  | k + 1 => vN c k + c k * 2 ^ k
theorem vN_lt {c : Nat → Nat} (hc : ∀ i, c i ≤ 1) (k : Nat) : vN c k < 2 ^ k := by
  induction k with
  | zero => exact Nat.zero_lt_succ _
  | succ k ih =>
    simp only [vN]
    have := Nat.mul_le_mul_right (2 ^ k) (hc k)
    rw [Nat.pow_succ]
    omega
theorem pop_vN {c : Nat → Nat} (hc : ∀ i, c i ≤ 1) : q4 (q3 (q2 (q1 (vN c 32)))) = sN c 32 := by
  have e0 : vN c 32 = vl 4 16 (fun i => c (2 * i) + 2 * c (2 * i + 1)) := by
    simp only [vl, vN, Nat.reduceAdd, Nat.reduceMul, Nat.zero_add, Nat.reducePow]
    omega
  have f4 : ∀ i, c (2 * i) + 2 * c (2 * i + 1) < 4 := fun i => by have := hc (2 * i); have := hc (2 * i + 1); omega
  rw [e0, q1_vl f4]
  have e1 := vl_congr (B := 4) (f := fun i => c (2 * i) + 2 * c (2 * i + 1) - (c (2 * i) + 2 * c (2 * i + 1)) / 2) (g := fun i => c (2 * i) + c (2 * i + 1)) (fun i => by
    have := hc (2 * i)
    have := hc (2 * i + 1)
    show c (2 * i) + 2 * c (2 * i + 1) - (c (2 * i) + 2 * c (2 * i + 1)) / 2 = c (2 * i) + c (2 * i + 1)
    omega) 16
  have g2 : ∀ i, c (2 * i) + c (2 * i + 1) ≤ 2 := fun i => by have := hc (2 * i); have := hc (2 * i + 1); omega
  generalize hg : (fun i => c (2 * i) + c (2 * i + 1)) = g at e1
  have hg2 : ∀ i, g i = c (2 * i) + c (2 * i + 1) := fun i => by rw [← hg]
  rw [e1, q2_vl (fun i => by rw [hg2]; have := g2 i; omega)]
  generalize he : (fun i => g (2 * i) + g (2 * i + 1)) = e
  have he2 : ∀ i, e i = g (2 * i) + g (2 * i + 1) := fun i => by rw [← he]
  have e4 : ∀ i, e i ≤ 4 := fun i => by rw [he2, hg2, hg2]; have := g2 (2 * i); have := g2 (2 * i + 1); omega
  rw [q3_vl e4, q4_vl (fun i => by have := e4 (2 * i); have := e4 (2 * i + 1); show e (2 * i) + e (2 * i + 1) ≤ 8; omega)]
  simp only [he2, hg2, sN, Nat.reduceAdd, Nat.reduceMul, Nat.zero_add]
  omega
/-- the set of boxes -/
def bsF (σ : jx_St) : Nat → Int
  | 0 => 0
  | k + 1 => if σ 0 (k : Int) = -1 then bsF σ k else jx_or (bsF σ k) (jx_shl 1 (k : Int))
def cB (σ : jx_St) (j : Nat) : Nat := if j < 31 ∧ σ 0 (j : Int) ≠ -1 then 1 else 0
theorem cB_le (σ : jx_St) (j : Nat) : cB σ j ≤ 1 := by unfold cB; split <;> decide
set_option maxRecDepth 100000 in
theorem shl_fin : ∀ k : Fin 31, ((jx_i ((k.val : Nat) : Int) &&& 31).toBitVec.smod 32).toNat = k.val := by decide
theorem shl_ok {k : Nat} (h : k < 31) : jx_shl 1 (k : Int) = 1 * ((2 ^ k : Nat) : Int) := by
  have hp : 2 ^ k ≤ 2 ^ 30 := Nat.pow_le_pow_right (by decide) (by omega)
  exact jx_shl_k (by decide) (k : Int) k (shl_fin ⟨k, h⟩) (by omega)
theorem bsF_val {σ : jx_St} (k : Nat) (h : k ≤ 31) : bsF σ k = (vN (cB σ) k : Int) := by
  induction k with
  | zero => rfl
  | succ k ih =>
    have ih := ih (by omega)
    have hlt := vN_lt (cB_le σ) k
    have hp : 2 ^ k ≤ 2 ^ 30 := Nat.pow_le_pow_right (by decide) (by omega)
    simp only [bsF, vN]
    by_cases c : σ 0 (k : Int) = -1
    · have e : cB σ k = 0 := by unfold cB; rw [if_neg (fun z => z.2 c)]
      rw [if_pos c, ih, e]
      simp
    · have e : cB σ k = 1 := by unfold cB; rw [if_pos ⟨by omega, c⟩]
      rw [if_neg c, ih, e, shl_ok (by omega), jx_or_k (a := (vN (cB σ) k : Int)) (b := 1) k (by omega) (by omega) (by decide) (by omega)]
      omega
theorem pop_bsF (σ : jx_St) : jx_pop (bsF σ 31) = (sN (cB σ) 31 : Int) := by
  have hlt := vN_lt (cB_le σ) 31
  have e32 : vN (cB σ) 32 = vN (cB σ) 31 := by
    show vN (cB σ) 31 + cB σ 31 * 2 ^ 31 = vN (cB σ) 31
    have : cB σ 31 = 0 := by unfold cB; rw [if_neg (fun z => absurd z.1 (by decide))]
    rw [this]; omega
  have s32 : sN (cB σ) 32 = sN (cB σ) 31 := by
    show sN (cB σ) 31 + cB σ 31 = sN (cB σ) 31
    have : cB σ 31 = 0 := by unfold cB; rw [if_neg (fun z => absurd z.1 (by decide))]
    rw [this]; omega
  have hs : ∀ k, sN (cB σ) k ≤ k := fun k => by
    induction k with
    | zero => exact Nat.le_refl _
    | succ k ih => have := cB_le σ k; simp only [sN]; omega
  have h31 := hs 31
  rw [bsF_val 31 (Nat.le_refl _)]
  unfold jx_pop
  rw [jx_iN (by omega), Int.toNat_natCast, pc_nat (by omega), ← e32, pop_vN (cB_le σ), s32, nI_toInt (by omega)]
theorem p_boxSet {Q : Int → Prop} {σ : jx_St} (hI : Inv σ) (h : Q (bsF σ 31)) : wp_T_boxSet Q σ := by
  refine jx_loop (fun v => 0 ≤ v.2 ∧ v.2 ≤ 31 ∧ v.1 = bsF σ v.2.toNat) (fun v => (31 - v.2).toNat) (fun B v hJ hB => ?_) ⟨Int.le_refl _, by dsimp only; omega, rfl⟩
  obtain ⟨a, i⟩ := v
  obtain ⟨a1, a2, a3⟩ := hJ
  dsimp only at a1 a2 a3 ⊢
  refine ⟨jx_inR (by omega) (by omega), fun q => ?_, fun q => ?_⟩
  · have hb : nb i := ⟨a1, q⟩
    have e : bsF σ (i + 1).toNat = if σ 0 i = -1 then bsF σ i.toNat else jx_or (bsF σ i.toNat) (jx_shl 1 i) := by
      rw [show (i + 1).toNat = i.toNat + 1 by omega]
      simp only [bsF]
      rw [toNat_cast a1]
    by_cases c : σ 0 i = -1
    · refine p_has_f hI hb c (c0 (hB _ ⟨by dsimp only; omega, by dsimp only; omega, ?_⟩ (by dsimp only; omega)))
      dsimp only; rw [e, if_pos c, a3]
    · refine p_has_t hI hb c (c1 (hB _ ⟨by dsimp only; omega, by dsimp only; omega, ?_⟩ (by dsimp only; omega)))
      dsimp only; rw [e, if_neg c, a3]
  · rw [a3, show i = 31 by omega]; exact h
