/-! ===== the pure part: Box's methods ===== -/
def arF (b : Int) : Int := if b = -1 then 0 else (bs b 2 - bs b 0) * (bs b 3 - bs b 1)
def ar (a b : Int) : Int := if a = -1 then b else if b = -1 then a else bo (min (bs a 0) (bs b 0)) (min (bs a 1) (bs b 1)) (max (bs a 2) (bs b 2)) (max (bs a 3) (bs b 3))
def toF (a b : Int) : Int := if a = -1 ∨ b = -1 then 0 else if bs a 0 ≤ bs b 2 ∧ bs b 0 ≤ bs a 2 ∧ bs a 1 ≤ bs b 3 ∧ bs b 1 ≤ bs a 3 then 1 else 0
def coF (a b : Int) : Int := if toF a b = 0 then 0 else (min (bs a 2) (bs b 2) - max (bs a 0) (bs b 0)) * (min (bs a 3) (bs b 3) - max (bs a 1) (bs b 1))
def apF (a b : Int) : Int := (bs a 0 + bs a 2 - bs b 0 - bs b 2) * (bs a 0 + bs a 2 - bs b 0 - bs b 2) + (bs a 1 + bs a 3 - bs b 1 - bs b 3) * (bs a 1 + bs a 3 - bs b 1 - bs b 3)
def kyF (b x : Int) : Int := 128 * bs b x + bs b (x + 2)
def diF (b x y : Int) : Int := max 0 (max (bs b 0 - x) (x - bs b 2)) * max 0 (max (bs b 0 - x) (x - bs b 2)) + max 0 (max (bs b 1 - y) (y - bs b 3)) * max 0 (max (bs b 1 - y) (y - bs b 3))
theorem p_side {Q : Int → Prop} {b w : Int} (h : Q (bs b w)) : wp_Box_side Q b w := h
theorem p_area {Q : Int → Prop} {b : Int} (hb : jx_R b) (h : Q (arF b)) : wp_Box_area Q b := by
  unfold arF at h
  refine ⟨hb, fun q => ?_, fun q => ?_⟩
  · rw [if_pos q] at h; exact h
  · rw [if_neg q] at h; exact h
theorem p_of {Q : Int → Prop} {a b c d : Int} (h : Q (bo a b c d)) : wp_Box_of Q a b c d := h
theorem p_around {Q : Int → Prop} {a b : Int} (ha : jx_R a) (hb : jx_R b) (h : Q (ar a b)) : wp_Box_around Q a b := by
  unfold ar at h
  refine ⟨ha, fun q => ⟨ha, fun _ => ?_, fun q2 => absurd q q2⟩, fun q => ⟨hb, fun q2 => ⟨ha, fun q3 => absurd q3 q, fun _ => ?_⟩, fun q2 => ?_⟩⟩
  · rw [if_pos q] at h; exact h
  · rw [if_neg q, if_pos q2] at h; exact h
  · rw [if_neg q, if_neg q2] at h
    exact ⟨bs_R _ _, bs_R _ _, bs_R _ _, bs_R _ _, bs_R _ _, bs_R _ _, bs_R _ _, bs_R _ _, h⟩
theorem p_touch {Q : Int → Prop} {a b : Int} (ha : jx_R a) (hb : jx_R b) (h : Q (toF a b)) : wp_Box_touch Q a b := by
  unfold toF at h
  refine ⟨ha, fun q => ?_, fun q => ⟨hb, fun q2 => ?_, fun q2 => ?_⟩⟩
  · rw [if_pos (Or.inl q)] at h; exact h
  · rw [if_pos (Or.inr q2)] at h; exact h
  · rw [if_neg (by omega)] at h
    refine ⟨bs_R _ _, bs_R _ _, fun c1 => ?_, fun c1 => ?_⟩
    · refine ⟨bs_R _ _, bs_R _ _, fun c2 => ?_, fun c2 => ?_⟩
      · refine ⟨bs_R _ _, bs_R _ _, fun c3 => ?_, fun c3 => ?_⟩
        · refine ⟨bs_R _ _, bs_R _ _, fun c4 => ?_, fun c4 => ?_⟩
          · rw [if_pos ⟨c1, c2, c3, c4⟩] at h; exact h
          · rw [if_neg (fun z => c4 z.2.2.2)] at h; exact h
        · rw [if_neg (fun z => c3 z.2.2.1)] at h; exact h
      · rw [if_neg (fun z => c2 z.2.1)] at h; exact h
    · rw [if_neg (fun z => c1 z.1)] at h; exact h
theorem toF_01 (a b : Int) : toF a b = 0 ∨ toF a b = 1 := by
  unfold toF
  split
  · exact Or.inl rfl
  · split
    · exact Or.inr rfl
    · exact Or.inl rfl
theorem toF_R (a b : Int) : jx_R (toF a b) := by rcases toF_01 a b with h | h <;> rw [h] <;> exact jx_inR (by decide) (by decide)
theorem p_common {Q : Int → Prop} {a b : Int} (ha : jx_R a) (hb : jx_R b) (h : Q (coF a b)) : wp_Box_common Q a b := by
  unfold coF at h
  refine p_touch ha hb ⟨toF_R a b, fun q => ?_, fun q => ?_⟩
  · rw [if_pos q] at h; exact h
  · rw [if_neg q] at h
    exact ⟨bs_R _ _, bs_R _ _, bs_R _ _, bs_R _ _, bs_R _ _, bs_R _ _, bs_R _ _, bs_R _ _, h⟩
theorem p_apart {Q : Int → Prop} {a b : Int} (h : Q (apF a b)) : wp_Box_apart Q a b := h
theorem p_key {Q : Int → Prop} {b x : Int} (h : Q (kyF b x)) : wp_Box_key Q b x := by
  show Q (jx_or (jx_shl (bs b x) 7) (bs b (x + 2)))
  have h1 := bs_ge b x
  have h2 := bs_lt b x
  have h3 := bs_ge b (x + 2)
  have h4 := bs_lt b (x + 2)
  have e1 := jx_shl_k h1 7 7 (by decide) (by omega)
  have e2 := jx_or_k (a := bs b (x + 2)) (b := bs b x) 7 h3 (by omega) h1 (by omega)
  have ec : ∀ u v : Int, jx_or u v = jx_or v u := fun u v => by unfold jx_or; rw [Int32.or_comm]
  rw [e1, ec, e2]
  have e3 : bs b (x + 2) + bs b x * (2 ^ 7 : Nat) = kyF b x := by unfold kyF; omega
  rw [e3]
  exact h
theorem p_distance {Q : Int → Prop} {b x y : Int} (hx : 0 ≤ x ∧ x ≤ 99) (hy : 0 ≤ y ∧ y ≤ 99) (h : Q (diF b x y)) : wp_Box_distance Q b x y := by
  have a0 := bs_ge b 0
  have a1 := bs_ge b 1
  have a2 := bs_ge b 2
  have a3 := bs_ge b 3
  have b0 := bs_lt b 0
  have b1 := bs_lt b 1
  have b2 := bs_lt b 2
  have b3 := bs_lt b 3
  refine ⟨jx_inR (by show _ ≤ bs b 0 - x; omega) (by show bs b 0 - x ≤ _; omega), jx_inR (by show _ ≤ x - bs b 2; omega) (by show x - bs b 2 ≤ _; omega), ?_, jx_inR (by show _ ≤ bs b 1 - y; omega) (by show bs b 1 - y ≤ _; omega), jx_inR (by show _ ≤ y - bs b 3; omega) (by show y - bs b 3 ≤ _; omega), ?_, h⟩
  · exact jx_inR (by show _ ≤ max (bs b 0 - x) (x - bs b 2); omega) (by show max (bs b 0 - x) (x - bs b 2) ≤ _; omega)
  · exact jx_inR (by show _ ≤ max (bs b 1 - y) (y - bs b 3); omega) (by show max (bs b 1 - y) (y - bs b 3) ≤ _; omega)
/-- a box that may be: its sides lie within 0 and 99, the low ones ahead of the high ones -/
def vb (b : Int) : Prop := 0 ≤ b ∧ jx_R b ∧ bs b 0 ≤ bs b 2 ∧ bs b 1 ≤ bs b 3 ∧ bs b 2 ≤ 99 ∧ bs b 3 ≤ 99
theorem vb_bo {a b c d : Int} (h : 0 ≤ a ∧ 0 ≤ b ∧ a ≤ c ∧ b ≤ d ∧ c ≤ 99 ∧ d ≤ 99) : vb (bo a b c d) := by
  obtain ⟨e0, e1, e2, e3, e4⟩ := bs_bo (a := a) (b := b) (c := c) (d := d) ⟨by omega, by omega⟩ ⟨by omega, by omega⟩ ⟨by omega, by omega⟩ ⟨by omega, by omega⟩
  exact ⟨e4, rr_or _ _, by omega, by omega, by omega, by omega⟩
theorem ar_sides {a b : Int} (ha : vb a) (hb : vb b) : bs (ar a b) 0 = min (bs a 0) (bs b 0) ∧ bs (ar a b) 1 = min (bs a 1) (bs b 1) ∧ bs (ar a b) 2 = max (bs a 2) (bs b 2) ∧ bs (ar a b) 3 = max (bs a 3) (bs b 3) ∧ vb (ar a b) := by
  obtain ⟨p0, _, p1, p2, p3, p4⟩ := ha
  obtain ⟨q0, _, q1, q2, q3, q4⟩ := hb
  have a0 := bs_ge a 0
  have a1 := bs_ge a 1
  have b0 := bs_ge b 0
  have b1 := bs_ge b 1
  unfold ar
  rw [if_neg (by omega), if_neg (by omega)]
  obtain ⟨e0, e1, e2, e3, e4⟩ := bs_bo (a := min (bs a 0) (bs b 0)) (b := min (bs a 1) (bs b 1)) (c := max (bs a 2) (bs b 2)) (d := max (bs a 3) (bs b 3)) ⟨by omega, by omega⟩ ⟨by omega, by omega⟩ ⟨by omega, by omega⟩ ⟨by omega, by omega⟩
  exact ⟨e0, e1, e2, e3, vb_bo (by omega)⟩
theorem ar_R {a b : Int} (ha : jx_R a) (hb : jx_R b) : jx_R (ar a b) := by
  unfold ar
  split
  · exact hb
  · split
    · exact ha
    · exact rr_or _ _
theorem ar_vb {a b : Int} (ha : a = -1 ∨ vb a) (hb : b = -1 ∨ vb b) : ar a b = -1 ∨ vb (ar a b) := by
  rcases ha with ha | ha
  · unfold ar; rw [if_pos ha]; exact hb
  · rcases hb with hb | hb
    · unfold ar
      have := ha.1
      rw [if_neg (by omega), if_pos hb]
      exact Or.inr ha
    · exact Or.inr (ar_sides ha hb).2.2.2.2
theorem ar_vb2 {a b : Int} (ha : a = -1 ∨ vb a) (hb : vb b) : vb (ar a b) := by
  rcases ha with ha | ha
  · unfold ar; rw [if_pos ha]; exact hb
  · exact (ar_sides ha hb).2.2.2.2
theorem arF_bd {b : Int} (h : b = -1 ∨ vb b) : 0 ≤ arF b ∧ arF b ≤ 9801 := by
  unfold arF
  rcases h with h | h
  · rw [if_pos h]; exact ⟨by decide, by decide⟩
  · obtain ⟨p0, _, p1, p2, p3, p4⟩ := h
    have a0 := bs_ge b 0
    have a1 := bs_ge b 1
    rw [if_neg (by omega)]
    have x1 : 0 ≤ bs b 2 - bs b 0 := by omega
    have x2 : bs b 2 - bs b 0 ≤ 99 := by omega
    have y1 : 0 ≤ bs b 3 - bs b 1 := by omega
    have y2 : bs b 3 - bs b 1 ≤ 99 := by omega
    exact ⟨Int.mul_nonneg x1 y1, Int.le_trans (Int.mul_le_mul x2 y2 y1 (by decide)) (by decide)⟩
