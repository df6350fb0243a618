/-! ===== the pure part: boxes ===== -/
theorem rr_and (a b : Int) : jx_R (jx_and a b) := jx_Rt _
theorem rr_or (a b : Int) : jx_R (jx_or a b) := jx_Rt _
theorem rr_xor (a b : Int) : jx_R (jx_xor a b) := jx_Rt _
theorem rr_shl (a b : Int) : jx_R (jx_shl a b) := jx_Rt _
theorem rr_shr (a b : Int) : jx_R (jx_shr a b) := jx_Rt _
theorem rr_rem (a b : Int) : jx_R (jx_rem a b) := jx_Rt _
theorem rr_div (a b : Int) : jx_R (jx_div a b) := jx_Rt _
theorem rr_pop (a : Int) : jx_R (jx_pop a) := jx_Rt _
theorem jx_iN {a : Int} (h : 0 ≤ a) : jx_i a = nI a.toNat := by
  obtain ⟨n, rfl⟩ := Int.eq_ofNat_of_zero_le h
  rfl
theorem jx_nT {n : Nat} (h : n < 2 ^ 31) : (nI n).toInt = (n : Int) := nI_toInt h
theorem jx_and_k {a : Int} (h : 0 ≤ a) (h2 : a < 2147483648) (k : Nat) (m : Int) (hm : (jx_i m).toBitVec.toNat = 2 ^ k - 1) (hk : k ≤ 30) : jx_and a m = a % (2 ^ k : Nat) := by
  obtain ⟨n, rfl⟩ := Int.eq_ofNat_of_zero_le h
  unfold jx_and
  rw [jx_iN h, Int.toNat_natCast, pk_andN (by omega) k hm, nI_toInt (Nat.lt_of_lt_of_le (Nat.mod_lt _ (Nat.two_pow_pos k)) (Nat.pow_le_pow_right (by decide) (by omega)))]
  rfl
theorem jx_shr_k {a : Int} (h : 0 ≤ a) (h2 : a < 2147483648) (s : Int) (k : Nat) (hs : ((jx_i s &&& 31).toBitVec.smod 32).toNat = k) : jx_shr a s = a / (2 ^ k : Nat) := by
  obtain ⟨n, rfl⟩ := Int.eq_ofNat_of_zero_le h
  unfold jx_shr
  rw [jx_iN h, Int.toNat_natCast, pk_shrN (by omega) _ k hs, nI_toInt (Nat.lt_of_le_of_lt (Nat.div_le_self _ _) (by omega))]
  rfl
theorem jx_shl_k {a : Int} (h : 0 ≤ a) (s : Int) (k : Nat) (hs : ((jx_i s &&& 31).toBitVec.smod 32).toNat = k) (h2 : a * (2 ^ k : Nat) < 2147483648) : jx_shl a s = a * (2 ^ k : Nat) := by
  obtain ⟨n, rfl⟩ := Int.eq_ofNat_of_zero_le h
  have h3 : n * 2 ^ k < 2147483648 := Int.ofNat_lt.mp (by rw [Int.natCast_mul]; exact h2)
  unfold jx_shl
  rw [jx_iN h, Int.toNat_natCast, pk_shlN _ k hs (by omega), nI_toInt (by omega)]
  exact Int.natCast_mul _ _
theorem jx_or_k {a b : Int} (k : Nat) (ha : 0 ≤ a) (ha2 : a < (2 ^ k : Nat)) (hb : 0 ≤ b) (h : a + b * (2 ^ k : Nat) < 2147483648) : jx_or a (b * (2 ^ k : Nat)) = a + b * (2 ^ k : Nat) := by
  obtain ⟨n, rfl⟩ := Int.eq_ofNat_of_zero_le ha
  obtain ⟨m, rfl⟩ := Int.eq_ofNat_of_zero_le hb
  have h3 : n + m * 2 ^ k < 2147483648 := Int.ofNat_lt.mp (by rw [Int.natCast_add, Int.natCast_mul]; exact h)
  have h4 : n < 2 ^ k := Int.ofNat_lt.mp ha2
  have e : ((m : Int) * ((2 ^ k : Nat) : Int)) = ((m * 2 ^ k : Nat) : Int) := (Int.natCast_mul _ _).symm
  rw [e]
  unfold jx_or
  rw [jx_iN (by omega), jx_iN (by omega), Int.toNat_natCast, Int.toNat_natCast]
  have e2 : nI n ||| nI (m * 2 ^ k) = nI (n + m * 2 ^ k) := by
    apply Int32.toBitVec_inj.mp
    show BitVec.ofNat 32 n ||| BitVec.ofNat 32 (m * 2 ^ k) = BitVec.ofNat 32 (n + m * 2 ^ k)
    rw [← BitVec.ofNat_or]
    congr 1
    rw [Nat.or_comm, Nat.mul_comm, ← Nat.two_pow_add_eq_or_of_lt h4, Nat.add_comm]
  rw [e2, nI_toInt (by omega)]
  exact Int.natCast_add _ _
/-- a side of a packed box -/
def bs (b w : Int) : Int := jx_and (jx_shr b (7 * w)) 127
def bo (a b c d : Int) : Int := jx_or (jx_or (jx_or a (jx_shl b 7)) (jx_shl c 14)) (jx_shl d 21)
theorem bs_R (b w : Int) : jx_R (bs b w) := jx_Rt _
theorem bs_ge (b w : Int) : 0 ≤ bs b w := by
  unfold bs jx_and
  obtain ⟨j, hj, e⟩ := pk_andE (jx_i (jx_shr b (7 * w))) (m := jx_i 127) 7 (by decide)
  rw [e, nI_toInt (by omega)]
  omega
theorem bs_lt (b w : Int) : bs b w < 128 := by
  unfold bs jx_and
  obtain ⟨j, hj, e⟩ := pk_andE (jx_i (jx_shr b (7 * w))) (m := jx_i 127) 7 (by decide)
  rw [e, nI_toInt (by omega)]
  omega
theorem bo_eq {a b c d : Int} (ha : 0 ≤ a ∧ a < 128) (hb : 0 ≤ b ∧ b < 128) (hc : 0 ≤ c ∧ c < 128) (hd : 0 ≤ d ∧ d < 128) : bo a b c d = a + 128 * b + 16384 * c + 2097152 * d := by
  unfold bo
  have e1 := jx_shl_k hb.1 7 7 (by decide) (by omega)
  have e2 := jx_shl_k hc.1 14 14 (by decide) (by omega)
  have e3 := jx_shl_k hd.1 21 21 (by decide) (by omega)
  rw [e1, e2, e3]
  have f1 := jx_or_k (a := a) (b := b) 7 ha.1 (by omega) hb.1 (by omega)
  rw [f1]
  have f2 := jx_or_k (a := a + b * (2 ^ 7 : Nat)) (b := c) 14 (by omega) (by omega) hc.1 (by omega)
  rw [f2]
  have f3 := jx_or_k (a := a + b * (2 ^ 7 : Nat) + c * (2 ^ 14 : Nat)) (b := d) 21 (by omega) (by omega) hd.1 (by omega)
  rw [f3]
  omega
theorem bs_of {x : Int} (h : 0 ≤ x) (h2 : x < 2147483648) : bs x 0 = x % 128 ∧ bs x 1 = x / 128 % 128 ∧ bs x 2 = x / 16384 % 128 ∧ bs x 3 = x / 2097152 % 128 := by
  unfold bs
  have e0 := jx_shr_k h h2 (7 * 0) 0 (by decide)
  have e1 := jx_shr_k h h2 (7 * 1) 7 (by decide)
  have e2 := jx_shr_k h h2 (7 * 2) 14 (by decide)
  have e3 := jx_shr_k h h2 (7 * 3) 21 (by decide)
  rw [e0, e1, e2, e3]
  refine ⟨?_, ?_, ?_, ?_⟩
  · rw [jx_and_k (by omega) (by omega) 7 127 (by decide) (by decide)]; omega
  · rw [jx_and_k (by omega) (by omega) 7 127 (by decide) (by decide)]; omega
  · rw [jx_and_k (by omega) (by omega) 7 127 (by decide) (by decide)]; omega
  · rw [jx_and_k (by omega) (by omega) 7 127 (by decide) (by decide)]; omega
theorem bs_bo {a b c d : Int} (ha : 0 ≤ a ∧ a < 128) (hb : 0 ≤ b ∧ b < 128) (hc : 0 ≤ c ∧ c < 128) (hd : 0 ≤ d ∧ d < 128) : bs (bo a b c d) 0 = a ∧ bs (bo a b c d) 1 = b ∧ bs (bo a b c d) 2 = c ∧ bs (bo a b c d) 3 = d ∧ 0 ≤ bo a b c d := by
  have e := bo_eq ha hb hc hd
  have h0 : 0 ≤ bo a b c d := by omega
  have h2 : bo a b c d < 2147483648 := by omega
  obtain ⟨e0, e1, e2, e3⟩ := bs_of h0 h2
  rw [e0, e1, e2, e3, e]
  refine ⟨by omega, by omega, by omega, by omega, by omega⟩
