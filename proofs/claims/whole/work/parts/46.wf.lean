/-! ===== the pure part: what holds of a tree, with things that wait ===== -/
def kids (σ : jx_St) (n : Int) : List Int := (List.range (σ 3 n).toNat).map (fun k : Nat => th σ n (k : Int))
theorem mem_kids {σ : jx_St} {n x : Int} : x ∈ kids σ n ↔ ∃ k, 0 ≤ k ∧ k < σ 3 n ∧ th σ n k = x := by
  unfold kids
  rw [List.mem_map]
  constructor
  · rintro ⟨k, hk, e⟩
    rw [List.mem_range] at hk
    exact ⟨(k : Int), by omega, by omega, e⟩
  · rintro ⟨k, h0, h1, e⟩
    refine ⟨k.toNat, List.mem_range.mpr (by omega), ?_⟩
    rw [Int.toNat_of_nonneg h0]
    exact e
theorem th_kids {σ : jx_St} {n k : Int} (h0 : 0 ≤ k) (h1 : k < σ 3 n) : th σ n k ∈ kids σ n := mem_kids.mpr ⟨k, h0, h1, rfl⟩
theorem kids_len {σ : jx_St} {n : Int} : (kids σ n).length = (σ 3 n).toNat := by unfold kids; simp
theorem kids_get {σ : jx_St} {n : Int} {k : Nat} (h : k < (σ 3 n).toNat) : (kids σ n)[k]? = some (th σ n (k : Int)) := by
  unfold kids
  rw [List.getElem?_map, List.getElem?_range h]
  rfl
theorem kids_same {σ τ : jx_St} {n : Int} (h3 : τ 3 n = σ 3 n) (h : ∀ k, 0 ≤ k → k < σ 3 n → th τ n k = th σ n k) : kids τ n = kids σ n := by
  unfold kids
  rw [h3]
  apply List.map_congr_left
  intro k hk
  rw [List.mem_range] at hk
  exact h (k : Int) (by omega) (by omega)
theorem nodup_th {σ : jx_St} {n j k : Int} (h : (kids σ n).Nodup) (j0 : 0 ≤ j) (j1 : j < σ 3 n) (k0 : 0 ≤ k) (k1 : k < σ 3 n) (e : th σ n j = th σ n k) : j = k := by
  have hj := kids_get (σ := σ) (n := n) (k := j.toNat) (by omega)
  have hk := kids_get (σ := σ) (n := n) (k := k.toNat) (by omega)
  rw [Int.toNat_of_nonneg j0] at hj
  rw [Int.toNat_of_nonneg k0] at hk
  rw [e, ← hk] at hj
  have := (List.getElem?_inj (by rw [kids_len]; omega) h).mp hj
  omega
def Wf (σ : jx_St) (P : List (Int × Int)) : Prop :=
  (lvn σ (σ 7 0) ∧ σ 2 (σ 7 0) ≤ 3 ∧ σ 5 (σ 7 0) = -1) ∧
  (∀ n, nd n → σ 2 n = -1 ∨ (0 ≤ σ 2 n ∧ σ 2 n ≤ σ 2 (σ 7 0))) ∧
  (∀ n, nd n → σ 2 n = -1 → σ 3 n = 0 ∧ σ 5 n = -1) ∧
  (∀ n, lvn σ n → 0 ≤ σ 3 n ∧ σ 3 n ≤ 5 ∧ (n ≠ σ 7 0 → 2 ≤ σ 3 n) ∧ (0 < σ 2 n → 1 ≤ σ 3 n)) ∧
  (∀ n x, lvn σ n → σ 2 n = 0 → x ∈ kids σ n → nb x ∧ σ 0 x ≠ -1 ∧ σ 1 x = n ∧ (x, (0 : Int)) ∉ P) ∧
  (∀ n x, lvn σ n → 0 < σ 2 n → x ∈ kids σ n → lvn σ x ∧ σ 2 x = σ 2 n - 1 ∧ σ 5 x = n ∧ (x, σ 2 n) ∉ P) ∧
  (∀ n, lvn σ n → (kids σ n).Nodup) ∧
  (∀ n, lvn σ n → n ≠ σ 7 0 → ((n, σ 2 n + 1) ∈ P ∧ σ 5 n = -1) ∨ (lvn σ (σ 5 n) ∧ σ 2 (σ 5 n) = σ 2 n + 1 ∧ n ∈ kids σ (σ 5 n))) ∧
  (∀ b, nb b → σ 0 b = -1 ∨ (vb (σ 0 b) ∧ ((b, (0 : Int)) ∈ P ∨ (lvn σ (σ 1 b) ∧ σ 2 (σ 1 b) = 0 ∧ b ∈ kids σ (σ 1 b))))) ∧
  (∀ x l, (x, l) ∈ P → 0 ≤ l ∧ l ≤ σ 2 (σ 7 0) ∧ (l = 0 → nb x ∧ σ 0 x ≠ -1) ∧ (0 < l → lvn σ x ∧ σ 2 x = l - 1 ∧ x ≠ σ 7 0 ∧ σ 5 x = -1)) ∧
  P.Nodup ∧
  (∀ n, lvn σ n → loc σ n ∧ vbo (σ 4 n))
theorem Wf.sh {σ : jx_St} {P : List (Int × Int)} (h : Wf σ P) : Sh σ := by
  obtain ⟨w1, w2, w3, w4, w5, w6, w7, w8, w9, w10, w11, w12⟩ := h
  refine ⟨fun m hm => ?_, fun m k hm h0 h1 => ⟨fun e => ?_, fun e => ?_⟩, fun m hm => ?_⟩
  · have := w4 m hm
    have h2 := w2 m hm.1
    have := hm.2
    exact ⟨by omega, by omega, by omega⟩
  · obtain ⟨a, b, _⟩ := w5 m _ hm e (th_kids h0 h1)
    refine ⟨a, ?_⟩
    rcases w9 _ a with c | c
    · exact absurd c b
    · exact c.1
  · obtain ⟨a, b, c, _⟩ := w6 m _ hm e (th_kids h0 h1)
    exact ⟨a, b, c⟩
  · by_cases e : m = σ 7 0
    · rw [e]; exact Or.inl w1.2.2
    · rcases w8 m hm e with ⟨_, c⟩ | ⟨a, b, _⟩
      · exact Or.inl c
      · exact Or.inr ⟨a, b⟩
theorem adF_kids {σ : jx_St} {n x : Int} (h0 : 0 ≤ σ 3 n) : kids (adF σ n (σ 3 n) x) n = kids σ n ++ [x] := by
  unfold kids
  have e3 : adF σ n (σ 3 n) x 3 n = σ 3 n + 1 := by simp [adF]
  rw [e3, show (σ 3 n + 1).toNat = (σ 3 n).toNat + 1 by omega, List.range_succ, List.map_append]
  congr 1
  · apply List.map_congr_left
    intro k hk
    rw [List.mem_range] at hk
    simp only [th, adF, if_true]
    rw [if_neg (by omega), if_neg (by omega)]
  · simp only [List.map_cons, List.map_nil, th, adF, if_true]
    rw [if_pos (by omega)]
theorem adF_kids_ne {σ : jx_St} {n m x : Int} (h0 : 0 ≤ σ 3 n) (h1 : σ 3 n ≤ 4) (hm : σ 3 m ≤ 5) (hne : m ≠ n) : kids (adF σ n (σ 3 n) x) m = kids σ m := by
  apply kids_same
  · simp only [adF]; simp [hne]
  · intro k k0 k1
    simp only [th, adF, if_true]
    rw [if_neg (by omega), if_neg (by omega)]
/-- a thing that waited is in its row, and the hulls are right again -/
theorem wf_attach {σ τ : jx_St} {P : List (Int × Int)} {n x l : Int} (h : Wf σ ((x, l) :: P)) (hn : lvn σ n) (hl : σ 2 n = l) (h4 : σ 3 n ≤ 4) (ht : ∀ k, k ≠ 4 → τ k = adF σ n (σ 3 n) x k) (hh : ∀ m, lvn σ m → loc τ m ∧ vbo (τ 4 m)) : Wf τ P := by
  obtain ⟨w1, w2, w3, w4, w5, w6, w7, w8, w9, w10, w11, w12⟩ := h
  subst hl
  have n4 := w4 n hn
  obtain ⟨x0, x1, x2, x3⟩ := w10 x (σ 2 n) List.mem_cons_self
  have e0 : τ 0 = σ 0 := by rw [ht 0 (by decide)]; funext i; simp only [adF]; rw [if_neg (by decide), if_neg (by decide), if_neg (by split <;> decide)]
  have e2 : τ 2 = σ 2 := by rw [ht 2 (by decide)]; funext i; simp only [adF]; rw [if_neg (by decide), if_neg (by decide), if_neg (by split <;> decide)]
  have e7 : τ 7 = σ 7 := by rw [ht 7 (by decide)]; funext i; simp only [adF]; rw [if_neg (by decide), if_neg (by decide), if_neg (by split <;> decide)]
  have e3 : ∀ m, τ 3 m = if m = n then σ 3 n + 1 else σ 3 m := fun m => by rw [ht 3 (by decide)]; simp only [adF]; rw [if_neg (by decide), if_pos trivial]
  have kt : ∀ m, kids τ m = kids (adF σ n (σ 3 n) x) m := fun m => kids_same (by rw [ht 3 (by decide)]) (fun k _ _ => by unfold th; rw [ht 6 (by decide)])
  have kn : kids τ n = kids σ n ++ [x] := by rw [kt, adF_kids n4.1]
  have km : ∀ m, lvn σ m → m ≠ n → kids τ m = kids σ m := fun m hm hne => by rw [kt, adF_kids_ne n4.1 h4 (w4 m hm).2.1 hne]
  have lv' : ∀ m, lvn τ m ↔ lvn σ m := fun m => by unfold lvn; rw [e2]
  have nin : ∀ (y z : Int), (y, z) ∈ P → (y, z) ≠ (x, σ 2 n) := fun y z hy e => by rw [e] at hy; exact (List.nodup_cons.mp w11).1 hy
  have sub : ∀ (y z : Int), (y, z) ∉ (x, σ 2 n) :: P → (y, z) ∉ P := fun y z hy hz => hy (List.mem_cons_of_mem _ hz)
  by_cases hl0 : σ 2 n = 0
  · have e5 : τ 5 = σ 5 := by rw [ht 5 (by decide)]; funext i; simp only [adF]; rw [if_neg (by decide), if_neg (by decide), if_pos hl0, if_neg (by decide)]
    have e1 : ∀ y, τ 1 y = if y = x then n else σ 1 y := fun y => by rw [ht 1 (by decide)]; simp only [adF]; rw [if_neg (by decide), if_neg (by decide), if_pos hl0, if_pos rfl]
    have hxb := x2 hl0
    have xnot : ∀ m, lvn σ m → σ 2 m = 0 → x ∉ kids σ m := fun m hm hm0 hx => (w5 m x hm hm0 hx).2.2.2 (by rw [← hl0]; exact List.mem_cons_self)
    refine ⟨?_, ?_, ?_, ?_, ?_, ?_, ?_, ?_, ?_, ?_, (List.nodup_cons.mp w11).2, fun m hm => hh m ((lv' m).mp hm)⟩
    · rw [e7, e2, e5, lv']; exact w1
    · rw [e7, e2]; exact w2
    · intro m hm h2
      rw [e2] at h2
      rw [e3, e5, if_neg (fun e => by subst e; have := hn.2; omega)]
      exact w3 m hm h2
    · intro m hm
      have := w4 m ((lv' m).mp hm)
      rw [e7, e2, e3]
      split
      · next e => subst e; exact ⟨by omega, by omega, fun _ => by have := this.2.2.1; omega, fun _ => by omega⟩
      · exact this
    · intro m y hm h2 hy
      rw [e2] at h2
      rw [e0, e1]
      have hm' := (lv' m).mp hm
      by_cases e : m = n
      · subst e
        rw [kn, List.mem_append, List.mem_singleton] at hy
        rcases hy with hy | hy
        · obtain ⟨a, b, c, d⟩ := w5 m y hm' h2 hy
          exact ⟨a, b, by rw [c]; split <;> rfl, sub _ _ d⟩
        · subst hy
          exact ⟨hxb.1, hxb.2, by rw [if_pos rfl], fun hp => nin _ _ hp (by rw [hl0])⟩
      · rw [km m hm' e] at hy
        obtain ⟨a, b, c, d⟩ := w5 m y hm' h2 hy
        exact ⟨a, b, by rw [if_neg (fun ee => by subst ee; exact xnot m hm' h2 hy)]; exact c, sub _ _ d⟩
    · intro m y hm h2 hy
      rw [e2] at h2
      have hm' := (lv' m).mp hm
      rw [km m hm' (fun e => by subst e; omega)] at hy
      rw [lv', e2, e5]
      obtain ⟨a, b, c, d⟩ := w6 m y hm' h2 hy
      exact ⟨a, b, c, sub _ _ d⟩
    · intro m hm
      have hm' := (lv' m).mp hm
      by_cases e : m = n
      · subst e
        rw [kn, List.nodup_append]
        exact ⟨w7 m hm', by simp, fun a ha b hb e => by rw [List.mem_singleton] at hb; subst hb; subst e; exact xnot m hm' hl0 ha⟩
      · rw [km m hm' e]; exact w7 m hm'
    · intro m hm hr
      have hm' := (lv' m).mp hm
      rw [e7] at hr
      rw [e2, e5, lv']
      rcases w8 m hm' hr with ⟨a, b⟩ | ⟨a, b, c⟩
      · rcases List.mem_cons.mp a with z | z
        · have z1 : m = x := congrArg Prod.fst z
          have z2 : σ 2 m + 1 = σ 2 n := congrArg Prod.snd z
          have := hm'.2
          omega
        · exact Or.inl ⟨z, b⟩
      · refine Or.inr ⟨a, b, ?_⟩
        rw [km _ a (fun e => by rw [e] at b; have := hm'.2; omega)]
        exact c
    · intro b hb
      rw [e0, e1, e2]
      rcases w9 b hb with a | ⟨a, c⟩
      · exact Or.inl a
      · refine Or.inr ⟨a, ?_⟩
        by_cases e : b = x
        · subst e
          refine Or.inr ?_
          rw [if_pos rfl, lv', kn]
          exact ⟨hn, hl0, List.mem_append_right _ (List.mem_singleton.mpr rfl)⟩
        · rw [if_neg e]
          rcases c with c | ⟨c1, c2, c3⟩
          · rcases List.mem_cons.mp c with z | z
            · exact absurd (congrArg Prod.fst z) e
            · exact Or.inl z
          · refine Or.inr ⟨(lv' _).mpr c1, c2, ?_⟩
            by_cases e2 : σ 1 b = n
            · rw [e2] at c3 ⊢
              rw [kn]
              exact List.mem_append_left _ c3
            · rw [km _ c1 e2]; exact c3
    · intro y z hy
      rw [e7, e2, e0, e5, lv']
      exact w10 y z (List.mem_cons_of_mem _ hy)
  · have hlp : 0 < σ 2 n := by have := hn.2; omega
    have e1 : τ 1 = σ 1 := by rw [ht 1 (by decide)]; funext i; simp only [adF]; rw [if_neg (by decide), if_neg (by decide), if_neg hl0, if_neg (by decide)]
    have e5 : ∀ y, τ 5 y = if y = x then n else σ 5 y := fun y => by rw [ht 5 (by decide)]; simp only [adF]; rw [if_neg (by decide), if_neg (by decide), if_neg hl0, if_pos rfl]
    obtain ⟨hx1, hx2, hx3, hx4⟩ := x3 hlp
    have xnot : ∀ m, lvn σ m → 0 < σ 2 m → x ∉ kids σ m := fun m hm hm0 hx => by
      obtain ⟨a, b, c, d⟩ := w6 m x hm hm0 hx
      rw [hx4] at c
      have := hm.1.1
      omega
    refine ⟨?_, ?_, ?_, ?_, ?_, ?_, ?_, ?_, ?_, ?_, (List.nodup_cons.mp w11).2, fun m hm => hh m ((lv' m).mp hm)⟩
    · rw [e7, e2, e5, lv', if_neg (fun e => hx3 e.symm)]; exact w1
    · rw [e7, e2]; exact w2
    · intro m hm h2
      rw [e2] at h2
      rw [e3, e5, if_neg (fun e => by subst e; omega), if_neg (fun e => by subst e; have := hx1.2; omega)]
      exact w3 m hm h2
    · intro m hm
      have := w4 m ((lv' m).mp hm)
      rw [e7, e2, e3]
      split
      · next e => subst e; exact ⟨by omega, by omega, fun _ => by have := this.2.2.1; omega, fun _ => by omega⟩
      · exact this
    · intro m y hm h2 hy
      rw [e2] at h2
      rw [e0, e1]
      have hm' := (lv' m).mp hm
      rw [km m hm' (fun e => by subst e; omega)] at hy
      obtain ⟨a, b, c, d⟩ := w5 m y hm' h2 hy
      exact ⟨a, b, c, sub _ _ d⟩
    · intro m y hm h2 hy
      rw [e2] at h2
      have hm' := (lv' m).mp hm
      rw [lv', e2, e5]
      by_cases e : m = n
      · subst e
        rw [kn, List.mem_append, List.mem_singleton] at hy
        rcases hy with hy | hy
        · obtain ⟨a, b, c, d⟩ := w6 m y hm' h2 hy
          exact ⟨a, b, by rw [c]; split <;> rfl, sub _ _ d⟩
        · subst hy
          exact ⟨hx1, hx2, by rw [if_pos rfl], fun hp => nin _ _ hp rfl⟩
      · rw [km m hm' e] at hy
        obtain ⟨a, b, c, d⟩ := w6 m y hm' h2 hy
        exact ⟨a, b, by rw [if_neg (fun ee => by subst ee; exact xnot m hm' h2 hy)]; exact c, sub _ _ d⟩
    · intro m hm
      have hm' := (lv' m).mp hm
      by_cases e : m = n
      · subst e
        rw [kn, List.nodup_append]
        exact ⟨w7 m hm', by simp, fun a ha b hb e => by rw [List.mem_singleton] at hb; subst hb; subst e; exact xnot m hm' hlp ha⟩
      · rw [km m hm' e]; exact w7 m hm'
    · intro m hm hr
      have hm' := (lv' m).mp hm
      rw [e7] at hr
      rw [e2, e5]
      by_cases ex : m = x
      · subst ex
        rw [if_pos rfl, lv', kn]
        exact Or.inr ⟨hn, by omega, List.mem_append_right _ (List.mem_singleton.mpr rfl)⟩
      · rw [if_neg ex]
        rcases w8 m hm' hr with ⟨a, b⟩ | ⟨a, b, c⟩
        · rcases List.mem_cons.mp a with z | z
          · exact absurd (congrArg Prod.fst z) ex
          · exact Or.inl ⟨z, b⟩
        · refine Or.inr ⟨(lv' _).mpr a, b, ?_⟩
          by_cases e : σ 5 m = n
          · rw [e] at c ⊢
            rw [kn]
            exact List.mem_append_left _ c
          · rw [km _ a e]; exact c
    · intro b hb
      rw [e0, e1, e2]
      rcases w9 b hb with a | ⟨a, c⟩
      · exact Or.inl a
      · refine Or.inr ⟨a, ?_⟩
        rcases c with c | ⟨c1, c2, c3⟩
        · rcases List.mem_cons.mp c with z | z
          · exact absurd (congrArg Prod.snd z).symm hl0
          · exact Or.inl z
        · refine Or.inr ⟨(lv' _).mpr c1, c2, ?_⟩
          rw [km _ c1 (fun e => by rw [e] at c2; omega)]
          exact c3
    · intro y z hy
      rw [e7, e2, e0, e5, lv']
      obtain ⟨a, b, c, d⟩ := w10 y z (List.mem_cons_of_mem _ hy)
      refine ⟨a, b, c, fun q => ?_⟩
      obtain ⟨d1, d2, d3, d4⟩ := d q
      refine ⟨d1, d2, d3, ?_⟩
      rw [if_neg]
      · exact d4
      · intro e
        subst e
        exact nin _ _ hy (by rw [show z = σ 2 n by omega])
