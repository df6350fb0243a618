theorem land_split {k a b m n : Nat} (ha : a < 2 ^ k) (hm : m < 2 ^ k) : (2 ^ k * b + a) &&& (2 ^ k * n + m) = 2 ^ k * (b &&& n) + (a &&& m) := by
  apply Nat.eq_of_testBit_eq
  intro i
  have h : a &&& m < 2 ^ k := Nat.lt_of_le_of_lt Nat.and_le_left ha
  rw [Nat.testBit_and, Nat.testBit_two_pow_mul_add _ ha, Nat.testBit_two_pow_mul_add _ hm, Nat.testBit_two_pow_mul_add _ h]
  split
  · rw [Nat.testBit_and]
  · rw [Nat.testBit_and]
def vl (B : Nat) : Nat → (Nat → Nat) → Nat
  | 0, _ => 0
  | n + 1, f => B * vl B n (fun i => f (i + 1)) + f 0
theorem vl_congr {B : Nat} {f g : Nat → Nat} (h : ∀ i, f i = g i) (n : Nat) : vl B n f = vl B n g := by
  have : f = g := funext h
  rw [this]
theorem vl_land {k m : Nat} (hm : m < 2 ^ k) : ∀ (n : Nat) (f : Nat → Nat), (∀ i, f i < 2 ^ k) → vl (2 ^ k) n f &&& vl (2 ^ k) n (fun _ => m) = vl (2 ^ k) n (fun i => f i &&& m) := by
  intro n
  induction n with
  | zero => intro f _; simp [vl]
  | succ n ih =>
    intro f hf
    simp only [vl]
    rw [land_split (hf 0) hm, ih _ (fun i => hf (i + 1))]
theorem vl_add {B : Nat} : ∀ (n : Nat) (f g : Nat → Nat), vl B n f + vl B n g = vl B n (fun i => f i + g i) := by
  intro n
  induction n with
  | zero => intro f g; rfl
  | succ n ih =>
    intro f g
    simp only [vl]
    rw [← ih, Nat.mul_add]
    omega
theorem vl_half : ∀ (n : Nat) (f : Nat → Nat), ∃ t : Nat → Nat, vl 4 n f / 2 = vl 4 n (fun i => f i / 2 + 2 * t i) ∧ ∀ i, t i < 2 := by
  intro n
  induction n with
  | zero => intro f; exact ⟨fun _ => 0, by simp [vl], fun _ => Nat.zero_lt_succ _⟩
  | succ n ih =>
    intro f
    obtain ⟨t, h1, h2⟩ := ih (fun i => f (i + 1))
    refine ⟨fun i => match i with | 0 => vl 4 n (fun i => f (i + 1)) % 2 | i + 1 => t i, ?_, fun i => ?_⟩
    · simp only [vl]
      rw [← h1]
      omega
    · cases i with
      | zero => exact Nat.mod_lt _ (by decide)
      | succ i => exact h2 i
theorem vl_quarter : ∀ (n : Nat) (f : Nat → Nat), ∃ t : Nat → Nat, vl 16 n f / 4 = vl 16 n (fun i => f i / 4 + 4 * t i) ∧ ∀ i, t i < 4 := by
  intro n
  induction n with
  | zero => intro f; exact ⟨fun _ => 0, by simp [vl], fun _ => Nat.zero_lt_succ _⟩
  | succ n ih =>
    intro f
    obtain ⟨t, h1, h2⟩ := ih (fun i => f (i + 1))
    refine ⟨fun i => match i with | 0 => vl 16 n (fun i => f (i + 1)) % 4 | i + 1 => t i, ?_, fun i => ?_⟩
    · simp only [vl]
      rw [← h1]
      omega
    · cases i with
      | zero => exact Nat.mod_lt _ (by decide)
      | succ i => exact h2 i
def q1 (x : Nat) : Nat := x - (x / 2 &&& 1431655765)
def q2 (x : Nat) : Nat := (x &&& 858993459) + (x / 4 &&& 858993459)
def q3 (x : Nat) : Nat := (x + x / 16) &&& 252645135
def q4 (x : Nat) : Nat := (x + x / 256 + (x + x / 256) / 65536) &&& 63
theorem q1_vl {f : Nat → Nat} (hf : ∀ i, f i < 4) : q1 (vl 4 16 f) = vl 4 16 (fun i => f i - f i / 2) := by
  obtain ⟨t, h1, h2⟩ := vl_half 16 f
  have em : (1431655765 : Nat) = vl (2 ^ 2) 16 (fun _ => 1) := rfl
  have e1 : vl 4 16 f / 2 &&& 1431655765 = vl 4 16 (fun i => f i / 2) := by
    rw [h1, em]
    have := vl_land (k := 2) (m := 1) (by decide) 16 (fun i => f i / 2 + 2 * t i) (fun i => by have := hf i; have := h2 i; show _ < 4; omega)
    rw [show (4 : Nat) = 2 ^ 2 from rfl, this]
    refine vl_congr (fun i => ?_) 16
    rw [show (1 : Nat) = 2 ^ 1 - 1 from rfl, Nat.and_two_pow_sub_one_eq_mod]
    have := hf i
    omega
  unfold q1
  rw [e1]
  have := vl_add (B := 4) 16 (fun i => f i - f i / 2) (fun i => f i / 2)
  have e2 := vl_congr (B := 4) (f := fun i => (f i - f i / 2) + f i / 2) (g := f) (fun i => by show f i - f i / 2 + f i / 2 = f i; omega) 16
  rw [e2] at this
  omega
theorem q2_vl {g : Nat → Nat} (hg : ∀ i, g i < 4) : q2 (vl 4 16 g) = vl 16 8 (fun i => g (2 * i) + g (2 * i + 1)) := by
  have e0 : vl 4 16 g = vl 16 8 (fun i => g (2 * i) + 4 * g (2 * i + 1)) := by
    simp only [vl, Nat.reduceAdd, Nat.reduceMul, Nat.zero_add]
    omega
  generalize hh : (fun i => g (2 * i) + 4 * g (2 * i + 1)) = h at e0
  have hh2 : ∀ i, h i = g (2 * i) + 4 * g (2 * i + 1) := fun i => by rw [← hh]
  have hb : ∀ i, h i < 16 := fun i => by rw [hh2]; have := hg (2 * i); have := hg (2 * i + 1); omega
  obtain ⟨t, t1, t2⟩ := vl_quarter 8 h
  have em : (858993459 : Nat) = vl (2 ^ 4) 8 (fun _ => 3) := rfl
  have e1 : vl 16 8 h &&& 858993459 = vl 16 8 (fun i => g (2 * i)) := by
    have := vl_land (k := 4) (m := 3) (by decide) 8 h hb
    rw [em, show (16 : Nat) = 2 ^ 4 from rfl, this]
    refine vl_congr (fun i => ?_) 8
    rw [show (3 : Nat) = 2 ^ 2 - 1 from rfl, Nat.and_two_pow_sub_one_eq_mod, hh2]
    have := hg (2 * i)
    omega
  have e2 : vl 16 8 h / 4 &&& 858993459 = vl 16 8 (fun i => g (2 * i + 1)) := by
    have := vl_land (k := 4) (m := 3) (by decide) 8 (fun i => h i / 4 + 4 * t i) (fun i => by have := hb i; have := t2 i; show _ < 16; omega)
    rw [t1, em, show (16 : Nat) = 2 ^ 4 from rfl, this]
    refine vl_congr (fun i => ?_) 8
    rw [show (3 : Nat) = 2 ^ 2 - 1 from rfl, Nat.and_two_pow_sub_one_eq_mod, hh2]
    have := hg (2 * i)
    have := hg (2 * i + 1)
    omega
  unfold q2
  rw [e0, e1, e2, vl_add]
theorem q3_vl {e : Nat → Nat} (he : ∀ i, e i ≤ 4) : q3 (vl 16 8 e) = vl 256 4 (fun i => e (2 * i) + e (2 * i + 1)) := by
  have h0 := he 0
  have h1 := he 1
  have h2 := he 2
  have h3 := he 3
  have h4 := he 4
  have h5 := he 5
  have h6 := he 6
  have h7 := he 7
  have e0 : vl 16 8 e + vl 16 8 e / 16 = vl 256 4 (fun i => (e (2 * i) + e (2 * i + 1)) + 16 * (e (2 * i + 1) + if i < 3 then e (2 * i + 2) else 0)) := by
    simp only [vl]
    simp
    omega
  unfold q3
  have em : (252645135 : Nat) = vl (2 ^ 8) 4 (fun _ => 15) := rfl
  have := vl_land (k := 8) (m := 15) (by decide) 4 (fun i => (e (2 * i) + e (2 * i + 1)) + 16 * (e (2 * i + 1) + if i < 3 then e (2 * i + 2) else 0)) (fun i => by
    have := he (2 * i)
    have := he (2 * i + 1)
    have := he (2 * i + 2)
    show _ < 256
    split <;> omega)
  rw [e0, em, show (256 : Nat) = 2 ^ 8 from rfl, this]
  refine vl_congr (fun i => ?_) 4
  rw [show (15 : Nat) = 2 ^ 4 - 1 from rfl, Nat.and_two_pow_sub_one_eq_mod]
  have := he (2 * i)
  have := he (2 * i + 1)
  omega
theorem q4_vl {q : Nat → Nat} (hq : ∀ i, q i ≤ 8) : q4 (vl 256 4 q) = q 0 + q 1 + q 2 + q 3 := by
  have h0 := hq 0
  have h1 := hq 1
  have h2 := hq 2
  have h3 := hq 3
  unfold q4
  rw [show (63 : Nat) = 2 ^ 6 - 1 from rfl, Nat.and_two_pow_sub_one_eq_mod]
  simp only [vl, Nat.reduceAdd, Nat.reduceMul, Nat.zero_add]
  generalize q 0 = a at h0 ⊢
  generalize q 1 = b at h1 ⊢
  generalize q 2 = c at h2 ⊢
  generalize q 3 = d at h3 ⊢
  have e1 : (256 * (256 * (256 * d + c) + b) + a) / 256 = 256 * (256 * d + c) + b := by omega
  rw [e1]
  have e2 : (256 * (256 * (256 * d + c) + b) + a + (256 * (256 * d + c) + b)) / 65536 = 256 * d + c + d := by
    have : 256 * (256 * (256 * d + c) + b) + a + (256 * (256 * d + c) + b) = 65536 * (256 * d + c + d) + (256 * (b + c) + (a + b)) := by omega
    rw [this]
    omega
  rw [e2]
  have e3 : 256 * (256 * (256 * d + c) + b) + a + (256 * (256 * d + c) + b) + (256 * d + c + d) = 64 * (262144 * d + 1024 * c + 4 * b + 1024 * d + 4 * c + 4 * d) + (a + b + c + d) := by omega
  rw [e3]
  omega
