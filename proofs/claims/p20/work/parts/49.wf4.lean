/-! ===== the pure part: nodes that go, a root that goes ===== -/
/-- what is left of a tree when a node is dropped that has nothing -/
def dpF (σ : jx_St) (x : Int) : jx_St := jx_su (jx_su (jx_su σ 2 x (-1)) 4 x (-1)) 5 x (-1)
theorem dpF_2 {σ : jx_St} {x i : Int} : dpF σ x 2 i = if i = x then -1 else σ 2 i := by
  unfold dpF; rw [jx_su_ne (by decide), jx_su_ne (by decide)]; exact jx_su_same
theorem dpF_5 {σ : jx_St} {x i : Int} : dpF σ x 5 i = if i = x then -1 else σ 5 i := by
  unfold dpF
  by_cases z : i = x
  · rw [if_pos z, z]; exact jx_su_eq
  · rw [if_neg z, jx_su_same, if_neg z, jx_su_ne (by decide), jx_su_ne (by decide)]
theorem dpF_n {σ : jx_St} {x i : Int} {k : Nat} (h2 : k ≠ 2) (h4 : k ≠ 4) (h5 : k ≠ 5) : dpF σ x k i = σ k i := by
  unfold dpF; rw [jx_su_ne h5, jx_su_ne h4, jx_su_ne h2]
theorem ws_drop {σ : jx_St} {P : List (Int × Int)} {E : List Int} {x l : Int} (h : Ws σ ((x, l) :: P) E) (hl : 0 < l) (h3 : σ 3 x = 0) : Ws (dpF σ x) P E := by
  obtain ⟨w1, w2, w3, w4, w5, w6, w7, w8, w9, w10⟩ := h
  obtain ⟨xa, x5⟩ := w8 x l List.mem_cons_self
  have x5 := x5 hl
  have xP := (List.nodup_cons.mp w9).1
  have xx : lvn σ x ∧ σ 2 x = l - 1 ∧ x ≠ σ 7 0 := by
    rcases xa with ⟨a, _⟩ | ⟨_, a⟩
    · omega
    · exact a
  have en : ∀ k i, k ≠ 2 → k ≠ 4 → k ≠ 5 → dpF σ x k i = σ k i := fun k i a b c => dpF_n a b c
  have e5 : ∀ i, dpF σ x 5 i = σ 5 i := fun i => by rw [dpF_5]; split <;> simp_all
  have ek : ∀ n, kids (dpF σ x) n = kids σ n := fun n => kids_same (en 3 n (by decide) (by decide) (by decide)) (fun k _ _ => en 6 _ (by decide) (by decide) (by decide))
  have eh : ∀ y m, hm (dpF σ x) y m = hm σ y m := fun y m => by unfold hm; rw [en 1 _ (by decide) (by decide) (by decide), e5]
  have el : ∀ n, lvn (dpF σ x) n ↔ lvn σ n ∧ n ≠ x := fun n => by
    unfold lvn
    rw [dpF_2]
    by_cases z : n = x
    · rw [if_pos z]; exact ⟨fun q => absurd q.2 (by decide), fun q => absurd z q.2⟩
    · rw [if_neg z]; exact ⟨fun q => ⟨q, z⟩, fun q => q.1⟩
  have ea : ∀ y m, alv (dpF σ x) y m ↔ alv σ y m ∧ ¬ (y = x ∧ 0 < m) := fun y m => by
    unfold alv
    rw [dpF_2, el, en 0 _ (by decide) (by decide) (by decide), en 7 _ (by decide) (by decide) (by decide)]
    by_cases z : y = x
    · rw [if_pos z]
      constructor
      · rintro (a | ⟨_, a, _⟩)
        · exact ⟨Or.inl a, fun q => by have := a.1; omega⟩
        · exact absurd z a.2
      · rintro ⟨a | a, c⟩
        · exact Or.inl a
        · exact absurd ⟨z, a.1⟩ c
    · rw [if_neg z]
      constructor
      · rintro (a | ⟨a, b, c⟩)
        · exact ⟨Or.inl a, fun q => z q.1⟩
        · exact ⟨Or.inr ⟨a, b.1, c⟩, fun q => z q.1⟩
      · rintro ⟨a | ⟨a, b, c⟩, _⟩
        · exact Or.inl a
        · exact Or.inr ⟨a, ⟨b, z⟩, c⟩
  have r7 : dpF σ x 7 0 = σ 7 0 := en 7 _ (by decide) (by decide) (by decide)
  have r2 : dpF σ x 2 (σ 7 0) = σ 2 (σ 7 0) := by rw [dpF_2, if_neg (fun q => xx.2.2 q.symm)]
  have uq : ∀ y m, alv σ y m → y = x → 0 < m → (y, m) = (x, l) := fun y m a b c => by
    rw [b] at a ⊢
    rw [alv_uniq a xa ⟨fun q => by omega, fun q => by omega⟩]
  refine ⟨?_, ?_, ?_, ?_, ?_, ?_, ?_, ?_, (List.nodup_cons.mp w9).2, ?_⟩
  · rw [r7, r2, el, e5]; exact ⟨⟨w1.1, fun q => xx.2.2 q.symm⟩, w1.2⟩
  · intro n hn
    rw [r7, r2, dpF_2]
    by_cases z : n = x
    · rw [if_pos z]; exact Or.inl rfl
    · rw [if_neg z]; exact w2 n hn
  · intro n hn h2
    rw [dpF_2] at h2
    rw [en 3 _ (by decide) (by decide) (by decide), e5]
    by_cases z : n = x
    · rw [z]; exact ⟨h3, x5⟩
    · rw [if_neg z] at h2; exact w3 n hn h2
  · intro n hn
    obtain ⟨a, b⟩ := (el n).mp hn
    rw [r7, en 3 _ (by decide) (by decide) (by decide), dpF_2, if_neg b]; exact w4 n a
  · intro n y hn hy
    obtain ⟨a, b⟩ := (el n).mp hn
    rw [ek] at hy
    obtain ⟨c, d, e⟩ := w5 n y a hy
    rw [dpF_2, if_neg b, eh, ea]
    exact ⟨⟨c, fun q => e (by rw [uq y _ c q.1 q.2]; exact List.mem_cons_self)⟩, d, fun q => e (List.mem_cons_of_mem _ q)⟩
  · intro n hn
    rw [ek]; exact w6 n ((el n).mp hn).1
  · intro y m hy
    obtain ⟨a, b⟩ := (ea y m).mp hy
    rw [eh, el, ek, dpF_2]
    rcases w7 y m a with d | ⟨d, e, f⟩
    · rcases List.mem_cons.mp d with q | q
      · exact absurd ⟨congrArg Prod.fst q, by have : m = l := congrArg Prod.snd q; omega⟩ b
      · exact Or.inl q
    · have g : hm σ y m ≠ x := fun q => by rw [q, kids_0 h3] at f; exact absurd f List.not_mem_nil
      rw [if_neg g]
      exact Or.inr ⟨⟨d, g⟩, e, f⟩
  · intro y m hy
    obtain ⟨a, b⟩ := w8 y m (List.mem_cons_of_mem _ hy)
    rw [ea, e5]
    exact ⟨⟨a, fun q => xP (by rw [← uq y m a q.1 q.2]; exact hy)⟩, b⟩
  · intro b hb
    rw [en 0 _ (by decide) (by decide) (by decide)]; exact w10 b hb
/-- the root's only thing, which waits, is the root now, and the old one is dropped -/
theorem ws_lower {σ : jx_St} {P : List (Int × Int)} {E : List Int} {x : Int} (h : Ws σ ((x, σ 2 (σ 7 0)) :: P) E) (hl : 0 < σ 2 (σ 7 0)) (h3 : σ 3 (σ 7 0) = 0) (hP : ∀ y m, (y, m) ∈ P → m ≤ σ 2 (σ 7 0)) : Ws (dpF (jx_su σ 7 0 x) (σ 7 0)) P E := by
  obtain ⟨w1, w2, w3, w4, w5, w6, w7, w8, w9, w10⟩ := h
  obtain ⟨xa, x5⟩ := w8 x _ List.mem_cons_self
  have x5 := x5 hl
  have xx : lvn σ x ∧ σ 2 x = σ 2 (σ 7 0) - 1 ∧ x ≠ σ 7 0 := by
    rcases xa with ⟨a, _⟩ | ⟨_, a⟩
    · omega
    · exact a
  have en : ∀ k i, k ≠ 2 → k ≠ 4 → k ≠ 5 → k ≠ 7 → dpF (jx_su σ 7 0 x) (σ 7 0) k i = σ k i := fun k i a b c d => by rw [dpF_n a b c, jx_su_ne d]
  have e2 : ∀ i, dpF (jx_su σ 7 0 x) (σ 7 0) 2 i = if i = σ 7 0 then -1 else σ 2 i := fun i => by rw [dpF_2, jx_su_ne (by decide)]
  have e5 : ∀ i, dpF (jx_su σ 7 0 x) (σ 7 0) 5 i = σ 5 i := fun i => by
    rw [dpF_5, jx_su_ne (by decide)]
    by_cases z : i = σ 7 0
    · rw [if_pos z, z, w1.2.2]
    · rw [if_neg z]
  have e7 : dpF (jx_su σ 7 0 x) (σ 7 0) 7 0 = x := by rw [dpF_n (by decide) (by decide) (by decide)]; exact jx_su_eq
  have ek : ∀ n, kids (dpF (jx_su σ 7 0 x) (σ 7 0)) n = kids σ n := fun n => kids_same (en 3 n (by decide) (by decide) (by decide) (by decide)) (fun k _ _ => en 6 _ (by decide) (by decide) (by decide) (by decide))
  have eh : ∀ y m, hm (dpF (jx_su σ 7 0 x) (σ 7 0)) y m = hm σ y m := fun y m => by unfold hm; rw [en 1 _ (by decide) (by decide) (by decide) (by decide), e5]
  have el : ∀ n, lvn (dpF (jx_su σ 7 0 x) (σ 7 0)) n ↔ lvn σ n ∧ n ≠ σ 7 0 := fun n => by
    unfold lvn
    rw [e2]
    by_cases z : n = σ 7 0
    · rw [if_pos z]; exact ⟨fun q => absurd q.2 (by decide), fun q => absurd z q.2⟩
    · rw [if_neg z]; exact ⟨fun q => ⟨q, z⟩, fun q => q.1⟩
  have ea : ∀ y m, alv (dpF (jx_su σ 7 0 x) (σ 7 0)) y m ↔ alv σ y m ∧ ¬ (y = x ∧ 0 < m) := fun y m => by
    unfold alv
    rw [e2, el, en 0 _ (by decide) (by decide) (by decide) (by decide), e7]
    by_cases z : y = σ 7 0
    · rw [if_pos z]
      constructor
      · rintro (a | ⟨_, a, _⟩)
        · exact ⟨Or.inl a, fun q => by have := a.1; omega⟩
        · exact absurd z a.2
      · rintro ⟨a | a, c⟩
        · exact Or.inl a
        · exact absurd z a.2.2.2
    · rw [if_neg z]
      constructor
      · rintro (a | ⟨a, b, c, d⟩)
        · exact ⟨Or.inl a, fun q => by have := a.1; omega⟩
        · exact ⟨Or.inr ⟨a, b.1, c, z⟩, fun q => d q.1⟩
      · rintro ⟨a | ⟨a, b, c, _⟩, d⟩
        · exact Or.inl a
        · exact Or.inr ⟨a, ⟨b, z⟩, c, fun q => d ⟨q, a⟩⟩
  have uq : ∀ y m, alv σ y m → y = x → 0 < m → (y, m) = (x, σ 2 (σ 7 0)) := fun y m a b c => by
    rw [b] at a ⊢
    rw [alv_uniq a xa ⟨fun q => by omega, fun q => by omega⟩]
  have top : ∀ n, lvn σ n → n ≠ σ 7 0 → σ 2 n ≤ σ 2 (σ 7 0) - 1 := fun n hn hne => by
    have a := (w2 n hn.1).resolve_left (fun q => by have := hn.2; omega)
    by_cases z : σ 2 n = σ 2 (σ 7 0)
    · exfalso
      have ha : alv σ n (σ 2 n + 1) := Or.inr ⟨by have := hn.2; omega, hn, by omega, hne⟩
      rcases w7 n _ ha with b | ⟨b, c, _⟩
      · rcases List.mem_cons.mp b with q | q
        · have : σ 2 n + 1 = σ 2 (σ 7 0) := congrArg Prod.snd q
          omega
        · have := hP _ _ q
          omega
      · have := (w2 _ b.1).resolve_left (fun q => by have := b.2; omega)
        omega
    · omega
  have r2 : dpF (jx_su σ 7 0 x) (σ 7 0) 2 x = σ 2 x := by rw [e2, if_neg xx.2.2]
  refine ⟨?_, ?_, ?_, ?_, ?_, ?_, ?_, ?_, (List.nodup_cons.mp w9).2, ?_⟩
  · rw [e7, r2, el, e5]; exact ⟨⟨xx.1, xx.2.2⟩, by omega, x5⟩
  · intro n hn
    rw [e7, r2, e2]
    by_cases z : n = σ 7 0
    · rw [if_pos z]; exact Or.inl rfl
    · rw [if_neg z]
      rcases w2 n hn with a | a
      · exact Or.inl a
      · have := top n ⟨hn, a.1⟩ z
        exact Or.inr ⟨a.1, by omega⟩
  · intro n hn h2
    rw [e2] at h2
    rw [en 3 _ (by decide) (by decide) (by decide) (by decide), e5]
    by_cases z : n = σ 7 0
    · rw [z]; exact ⟨h3, w1.2.2⟩
    · rw [if_neg z] at h2; exact w3 n hn h2
  · intro n hn
    obtain ⟨a, b⟩ := (el n).mp hn
    rw [e7, en 3 _ (by decide) (by decide) (by decide) (by decide), e2, if_neg b]
    obtain ⟨c, d, e⟩ := w4 n a
    exact ⟨c, d, e.imp_right (fun q => ⟨fun _ => q.1 b, q.2⟩)⟩
  · intro n y hn hy
    obtain ⟨a, b⟩ := (el n).mp hn
    rw [ek] at hy
    obtain ⟨c, d, e⟩ := w5 n y a hy
    rw [e2, if_neg b, eh, ea]
    exact ⟨⟨c, fun q => e (by rw [uq y _ c q.1 q.2]; exact List.mem_cons_self)⟩, d, fun q => e (List.mem_cons_of_mem _ q)⟩
  · intro n hn
    rw [ek]; exact w6 n ((el n).mp hn).1
  · intro y m hy
    obtain ⟨a, b⟩ := (ea y m).mp hy
    rw [eh, el, ek, e2]
    rcases w7 y m a with d | ⟨d, e, f⟩
    · rcases List.mem_cons.mp d with q | q
      · exact absurd ⟨congrArg Prod.fst q, by have : m = σ 2 (σ 7 0) := congrArg Prod.snd q; omega⟩ b
      · exact Or.inl q
    · have g : hm σ y m ≠ σ 7 0 := fun q => by rw [q, kids_0 h3] at f; exact absurd f List.not_mem_nil
      rw [if_neg g]
      exact Or.inr ⟨⟨d, g⟩, e, f⟩
  · intro y m hy
    obtain ⟨a, b⟩ := w8 y m (List.mem_cons_of_mem _ hy)
    rw [ea, e5]
    exact ⟨⟨a, fun q => (List.nodup_cons.mp w9).1 (by rw [← uq y m a q.1 q.2]; exact hy)⟩, b⟩
  · intro b hb
    rw [en 0 _ (by decide) (by decide) (by decide) (by decide)]; exact w10 b hb
