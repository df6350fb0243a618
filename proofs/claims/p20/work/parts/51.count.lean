/-! ===== the pure part: there is always a free node, and the root is not too high ===== -/
def nds : List Int := (List.range 32).map (fun k : Nat => (k : Int))
theorem mem_nds {n : Int} : n ∈ nds ↔ nd n := by
  unfold nds nd
  rw [List.mem_map]
  constructor
  · rintro ⟨k, hk, e⟩
    rw [List.mem_range] at hk
    omega
  · intro h
    exact ⟨n.toNat, List.mem_range.mpr (by omega), Int.toNat_of_nonneg h.1⟩
theorem nds_nodup : nds.Nodup := by
  unfold nds
  exact List.pairwise_map.mpr (List.Pairwise.imp (fun h => by omega) List.pairwise_lt_range)
def NL (σ : jx_St) (l : Int) : List Int := nds.filter (fun n => decide (σ 2 n = l ∧ n ≠ σ 7 0))
theorem mem_NL {σ : jx_St} {l n : Int} : n ∈ NL σ l ↔ nd n ∧ σ 2 n = l ∧ n ≠ σ 7 0 := by
  unfold NL
  rw [List.mem_filter, mem_nds, decide_eq_true_iff]
theorem NL_nodup {σ : jx_St} {l : Int} : (NL σ l).Nodup := List.Pairwise.filter _ nds_nodup
theorem flat_two {f : Int → List Int} (l : List Int) (h : ∀ a ∈ l, 2 ≤ (f a).length) : 2 * l.length ≤ (l.flatMap f).length := by
  induction l with
  | nil => exact Nat.zero_le _
  | cons a l ih =>
    have h1 := h a List.mem_cons_self
    have h2 := ih (fun b hb => h b (List.mem_cons_of_mem _ hb))
    rw [List.flatMap_cons, List.length_append, List.length_cons]
    omega
theorem flat_nodup {σ : jx_St} {P : List (Int × Int)} {E : List Int} (hW : Ws σ P E) (l : Int) (hl : 0 ≤ l) : ((NL σ l).flatMap (kids σ)).Nodup := by
  obtain ⟨w1, w2, w3, w4, w5, w6, w7, w8, w9, w10⟩ := hW
  have lv : ∀ n ∈ NL σ l, lvn σ n ∧ σ 2 n = l := fun n hn => by
    have := mem_NL.mp hn
    exact ⟨⟨this.1, by omega⟩, this.2.1⟩
  refine List.pairwise_flatMap.mpr ⟨fun n hn => w6 n (lv n hn).1, List.Pairwise.imp_of_mem (fun {a b} ha hb hab x hx y hy e => ?_) (NL_nodup (σ := σ) (l := l))⟩
  obtain ⟨a1, a2⟩ := lv a ha
  obtain ⟨b1, b2⟩ := lv b hb
  have h1 := (w5 a x a1 hx).2.1
  have h2 := (w5 b y b1 hy).2.1
  rw [a2] at h1
  rw [b2, ← e, h1] at h2
  exact hab h2
theorem cnt_0 {σ : jx_St} {P : List (Int × Int)} (hW : Ws σ P []) : 2 * (NL σ 0).length ≤ 31 := by
  have hd := flat_nodup hW 0 (by decide)
  obtain ⟨w1, w2, w3, w4, w5, w6, w7, w8, w9, w10⟩ := hW
  have lv : ∀ n ∈ NL σ 0, lvn σ n ∧ σ 2 n = 0 ∧ n ≠ σ 7 0 := fun n hn => by
    have := mem_NL.mp hn
    exact ⟨⟨this.1, by omega⟩, this.2⟩
  have h1 := flat_two (f := kids σ) (NL σ 0) (fun n hn => by
    obtain ⟨a, b, c⟩ := lv n hn
    have := ((w4 n a).2.2.resolve_left List.not_mem_nil).1 c
    rw [kids_len]; omega)
  have h2 := List.Nodup.length_le_of_subset (l₂ := (List.range 31).map (fun k : Nat => (k : Int))) hd (fun x hx => by
    rw [List.mem_flatMap] at hx
    obtain ⟨n, hn, hx⟩ := hx
    obtain ⟨a, b, c⟩ := lv n hn
    rcases (w5 n x a hx).1 with ⟨_, d, _⟩ | ⟨d, _⟩
    · rw [List.mem_map]
      exact ⟨x.toNat, List.mem_range.mpr (by have := d.1; have := d.2; omega), Int.toNat_of_nonneg d.1⟩
    · omega)
  rw [List.length_map, List.length_range] at h2
  omega
theorem cnt_up {σ : jx_St} {P : List (Int × Int)} (hW : Ws σ P []) (l : Int) (hl : 0 ≤ l) : 2 * (NL σ (l + 1)).length ≤ (NL σ l).length + 1 := by
  have hd := flat_nodup hW (l + 1) (by omega)
  obtain ⟨w1, w2, w3, w4, w5, w6, w7, w8, w9, w10⟩ := hW
  have lv : ∀ n ∈ NL σ (l + 1), lvn σ n ∧ σ 2 n = l + 1 ∧ n ≠ σ 7 0 := fun n hn => by
    have := mem_NL.mp hn
    exact ⟨⟨this.1, by omega⟩, this.2⟩
  have h1 := flat_two (f := kids σ) (NL σ (l + 1)) (fun n hn => by
    obtain ⟨a, b, c⟩ := lv n hn
    have := ((w4 n a).2.2.resolve_left List.not_mem_nil).1 c
    rw [kids_len]; omega)
  have h2 := List.Nodup.length_le_of_subset (l₂ := NL σ l) hd (fun x hx => by
    rw [List.mem_flatMap] at hx
    obtain ⟨n, hn, hx⟩ := hx
    obtain ⟨a, b, c⟩ := lv n hn
    rcases (w5 n x a hx).1 with ⟨d, _⟩ | ⟨_, d, e, f⟩
    · omega
    · exact mem_NL.mpr ⟨d.1, by omega, f⟩)
  omega
theorem cnt_3 {σ : jx_St} {P : List (Int × Int)} (hW : Ws σ P []) (hl : σ 2 (σ 7 0) = 3) : σ 3 (σ 7 0) ≤ 4 := by
  have c0 := cnt_0 hW
  have c1 := cnt_up hW 0 (by decide)
  have c2 := cnt_up hW 1 (by decide)
  obtain ⟨w1, w2, w3, w4, w5, w6, w7, w8, w9, w10⟩ := hW
  have h2 := List.Nodup.length_le_of_subset (l₂ := NL σ 2) (w6 _ w1.1) (fun x hx => by
    rcases (w5 _ x w1.1 hx).1 with ⟨d, _⟩ | ⟨_, d, e, f⟩
    · omega
    · exact mem_NL.mpr ⟨d.1, by omega, f⟩)
  rw [kids_len] at h2
  simp only [Int.zero_add, show (1 : Int) + 1 = 2 by decide] at c1 c2
  omega
/-- the first free node -/
theorem cnt_free {σ : jx_St} {P : List (Int × Int)} (hW : Ws σ P []) : ∃ f, nd f ∧ σ 2 f = -1 ∧ ∀ j, 0 ≤ j → j < f → σ 2 j ≠ -1 ∧ jx_R (σ 2 j) := by
  have c0 := cnt_0 hW
  have c1 := cnt_up hW 0 (by decide)
  have c2 := cnt_up hW 1 (by decide)
  have c3 := cnt_up hW 2 (by decide)
  obtain ⟨w1, w2, w3, w4, w5, w6, w7, w8, w9, w10⟩ := hW
  simp only [Int.zero_add, show (1 : Int) + 1 = 2 by decide, show (2 : Int) + 1 = 3 by decide] at c1 c2 c3
  have hR : ∀ j, nd j → jx_R (σ 2 j) := fun j hj => by
    rcases w2 j hj with a | a
    · rw [a]; exact jx_inR (by decide) (by decide)
    · exact jx_inR (by omega) (by omega)
  have ex : ∃ k : Nat, k < 32 ∧ σ 2 (k : Int) = -1 := by
    apply Decidable.byContradiction
    intro hno
    have h2 := List.Nodup.length_le_of_subset (l₂ := σ 7 0 :: (NL σ 0 ++ (NL σ 1 ++ (NL σ 2 ++ NL σ 3)))) nds_nodup (fun x hx => by
      have hx := mem_nds.mp hx
      by_cases z : x = σ 7 0
      · rw [z]; exact List.mem_cons_self
      · refine List.mem_cons_of_mem _ ?_
        have h0 := (w2 x hx).resolve_left (fun q => hno ⟨x.toNat, by have := hx.1; have := hx.2; omega, by rw [Int.toNat_of_nonneg hx.1]; exact q⟩)
        simp only [List.mem_append, mem_NL]
        have : σ 2 x = 0 ∨ σ 2 x = 1 ∨ σ 2 x = 2 ∨ σ 2 x = 3 := by omega
        rcases this with q | q | q | q
        · exact Or.inl ⟨hx, q, z⟩
        · exact Or.inr (Or.inl ⟨hx, q, z⟩)
        · exact Or.inr (Or.inr (Or.inl ⟨hx, q, z⟩))
        · exact Or.inr (Or.inr (Or.inr ⟨hx, q, z⟩)))
    simp only [List.length_cons, List.length_append] at h2
    have : nds.length = 32 := by unfold nds; rw [List.length_map, List.length_range]
    omega
  have least : ∀ m : Nat, (∃ k : Nat, k < m ∧ σ 2 (k : Int) = -1) → ∃ k : Nat, k < m ∧ σ 2 (k : Int) = -1 ∧ ∀ j : Nat, j < k → σ 2 (j : Int) ≠ -1 := by
    intro m
    induction m with
    | zero => rintro ⟨k, hk, _⟩; omega
    | succ m ih =>
      rintro ⟨k, hk, e⟩
      by_cases q : ∃ k : Nat, k < m ∧ σ 2 (k : Int) = -1
      · obtain ⟨k, a, b, c⟩ := ih q
        exact ⟨k, by omega, b, c⟩
      · refine ⟨k, hk, e, fun j hj e2 => q ⟨j, by omega, e2⟩⟩
  obtain ⟨k, a, b, c⟩ := least 32 ex
  refine ⟨(k : Int), ⟨by omega, by omega⟩, b, fun j j0 j1 => ⟨?_, hR j ⟨j0, by omega⟩⟩⟩
  have := c j.toNat (by omega)
  rw [Int.toNat_of_nonneg j0] at this
  exact this
