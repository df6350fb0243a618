/-! ===== the pure part: the reference, its basics ===== -/
theorem go_loop {α β γ : Type} {F : γ → (β → Prop) → (α → Prop) → α → Prop} (I : α → Prop) (m : α → Nat) (R : β → Prop) (hs : ∀ a, I a → (∃ b, R b ∧ ∀ g K B, K b → F g K B a) ∨ (∃ a', I a' ∧ m a' < m a ∧ ∀ g K B, B a' → F g K B a)) {a : α} (h : I a) : ∃ b, R b ∧ ∀ g K, K b → jx_lp (F g K) a := by
  have key : ∀ (n : Nat) (a : α), I a → m a < n → ∃ b, R b ∧ ∀ g K, K b → jx_lp (F g K) a := by
    intro n
    induction n with
    | zero => intro a _ h; omega
    | succ n ih =>
      intro a hI hm
      rcases hs a hI with ⟨b, hb, g⟩ | ⟨a', h1, h2, g⟩
      · exact ⟨b, hb, fun x K hK => ⟨1, g x K _ hK⟩⟩
      · obtain ⟨b, hb, g2⟩ := ih a' h1 (by omega)
        refine ⟨b, hb, fun x K hK => ?_⟩
        obtain ⟨k, hk⟩ := g2 x K hK
        exact ⟨k + 1, g x K _ hk⟩
  exact key _ a h (Nat.lt_succ_self _)
theorem lp_step {α : Type} {F : (α → Prop) → α → Prop} {a a' : α} (h : ∀ B, B a' → F B a) (h2 : jx_lp F a') : jx_lp F a := by
  obtain ⟨n, hn⟩ := h2
  exact ⟨n + 1, h _ hn⟩
theorem lp_done {α : Type} {F : (α → Prop) → α → Prop} {a : α} (h : ∀ B, F B a) : jx_lp F a := ⟨1, h _⟩
/-- the class's tree and the reference's row agree -/
def Ag (σ μ : jx_St) : Prop :=
  μ 0 0 = σ 7 0 ∧ (∀ n, 0 ≤ n → n < 40 → μ 0 (159 + n) = if n < 32 then σ 2 n else -1) ∧ (∀ n, lvn σ n → μ 0 (199 + n) = σ 3 n) ∧
  (∀ n k, lvn σ n → 0 ≤ k → k < σ 3 n → μ 0 (239 + 5 * n + k) = th σ n k) ∧ (∀ b, nb b → μ 0 (4 + b) = if σ 0 b = -1 then 0 else 1) ∧
  (∀ b k, nb b → σ 0 b ≠ -1 → 0 ≤ k → k < 4 → μ 0 (35 + 4 * b + k) = bs (σ 0 b) k) ∧ μ 0 1 = σ 8 0 ∧ μ 0 2 = σ 9 0
theorem m_levelOf {Q : Int → Prop} {σ μ : jx_St} {n : Int} (hA : Ag σ μ) (h0 : 0 ≤ n) (h1 : n < 40) (h : Q (if n < 32 then σ 2 n else -1)) : wp_M_levelOf Q μ n := by
  refine ⟨⟨by omega, by show 159 + n < 439; omega⟩, ?_⟩
  rw [hA.2.1 n h0 h1]
  exact h
theorem m_level {Q : Int → Prop} {σ μ : jx_St} {n : Int} (hA : Ag σ μ) (hn : nd n) (h : Q (σ 2 n)) : wp_M_levelOf Q μ n := m_levelOf hA hn.1 (by have := hn.2; omega) (by rw [if_pos hn.2]; exact h)
theorem m_manyOf {Q : Int → Prop} {σ μ : jx_St} {n : Int} (hA : Ag σ μ) (hn : lvn σ n) (h : Q (σ 3 n)) : wp_M_manyOf Q μ n := by
  have a := hn.1.1
  have b := hn.1.2
  refine ⟨⟨by omega, by show 199 + n < 439; omega⟩, ?_⟩
  rw [hA.2.2.1 n hn]
  exact h
theorem m_thing {Q : Int → Prop} {σ μ : jx_St} {n k : Int} (hA : Ag σ μ) (hn : lvn σ n) (h5 : σ 3 n ≤ 5) (k0 : 0 ≤ k) (k1 : k < σ 3 n) (h : Q (th σ n k)) : wp_M_thing Q μ n k := by
  have a := hn.1.1
  have b := hn.1.2
  refine ⟨⟨by omega, by show 239 + 5 * n + k < 439; omega⟩, ?_⟩
  rw [hA.2.2.2.1 n k hn k0 k1]
  exact h
/-- the nodes' boxes and what is below them, but for those of X -/
def Lai (σ μ : jx_St) (n : Int) : Prop := (1 ≤ σ 3 n → ∀ k, 0 ≤ k → k < 4 → μ 7 (4 * n + k) = bs (σ 4 n) k) ∧ μ 8 n = if σ 2 n = 0 then σ 3 n else smL (μ 8) (kids σ n)
def La (σ μ : jx_St) : Prop := ∀ n, lvn σ n → Lai σ μ n
theorem La.bel {σ μ : jx_St} (h : La σ μ) : Bel σ (μ 8) := fun n hn => (h n hn).2
/-- every thing that a row has has a box -/
def Vh (σ : jx_St) : Prop := ∀ n k, lvn σ n → 0 ≤ k → k < σ 3 n → vb (hv σ (th σ n k) (σ 2 n))
theorem rh_vb {σ : jx_St} {n : Int} (h : ∀ k, 0 ≤ k → k < σ 3 n → vb (hv σ (th σ n k) (σ 2 n))) : ∀ k : Nat, ((k : Int) ≤ σ 3 n) → (k = 0 ∧ rh σ n k = -1) ∨ (0 < k ∧ vb (rh σ n k)) := by
  intro k
  induction k with
  | zero => intro _; exact Or.inl ⟨rfl, rfl⟩
  | succ k ih =>
    intro hk
    have hv := h (k : Int) (by omega) (by omega)
    refine Or.inr ⟨by omega, ?_⟩
    simp only [rh]
    exact ar_vb2 ((ih (by omega)).imp (fun q => q.2) (fun q => q.2)) hv
theorem vh_lv {σ : jx_St} {P : List (Int × Int)} (hW : Ws σ P []) (hH : Hs σ []) : ∀ (L : Nat) (n : Int), lvn σ n → σ 2 n = (L : Int) → (∀ k, 0 ≤ k → k < σ 3 n → vb (hv σ (th σ n k) (σ 2 n))) ∧ (1 ≤ σ 3 n → vb (σ 4 n)) := by
  intro L
  induction L with
  | zero =>
    intro n hn hl
    have h1 : ∀ k, 0 ≤ k → k < σ 3 n → vb (hv σ (th σ n k) (σ 2 n)) := fun k k0 k1 => by
      unfold hv
      rw [if_pos (by omega)]
      exact ((hW.sh.2.1 n k hn k0 k1).1 (by omega)).2
    refine ⟨h1, fun h3 => ?_⟩
    have := hH.2 n hn List.not_mem_nil
    unfold loc at this
    rw [this]
    rcases rh_vb h1 (σ 3 n).toNat (by omega) with q | q
    · omega
    · exact q.2
  | succ L ih =>
    intro n hn hl
    have h1 : ∀ k, 0 ≤ k → k < σ 3 n → vb (hv σ (th σ n k) (σ 2 n)) := fun k k0 k1 => by
      unfold hv
      rw [if_neg (by omega)]
      obtain ⟨a, b, c, d⟩ := hW.kid hn (by omega) (th_kids k0 k1)
      have h2 := ((hW.2.2.2.1 _ a).2.2.resolve_left List.not_mem_nil).1 d
      exact (ih _ a (by omega)).2 (by omega)
    refine ⟨h1, fun h3 => ?_⟩
    have := hH.2 n hn List.not_mem_nil
    unfold loc at this
    rw [this]
    rcases rh_vb h1 (σ 3 n).toNat (by omega) with q | q
    · omega
    · exact q.2
theorem vh_of {σ : jx_St} {P : List (Int × Int)} (hW : Ws σ P []) (hH : Hs σ []) : Vh σ := fun n k hn k0 k1 => (vh_lv hW hH (σ 2 n).toNat n hn (by have := hn.2; omega)).1 k k0 k1
theorem vh_hull {σ : jx_St} {P : List (Int × Int)} (hW : Ws σ P []) (hH : Hs σ []) {n : Int} (hn : lvn σ n) (h : 1 ≤ σ 3 n) : vb (σ 4 n) := (vh_lv hW hH (σ 2 n).toNat n hn (by have := hn.2; omega)).2 h
/-- a thing's side, where it is known -/
def sdk (σ μ : jx_St) (x l : Int) : Prop := (l = 0 → nb x ∧ σ 0 x ≠ -1) ∧ (l ≠ 0 → nd x ∧ ∀ k, 0 ≤ k → k < 4 → μ 7 (4 * x + k) = bs (σ 4 x) k)
theorem m_side {Q : Int → Prop} {σ μ : jx_St} {x l k : Int} (hA : Ag σ μ) (hs : sdk σ μ x l) (hl : jx_R l) (k0 : 0 ≤ k) (k1 : k < 4) (h : Q (bs (hv σ x l) k)) : wp_M_side Q μ x l k := by
  unfold hv at h
  refine ⟨hl, fun q => ?_, fun q => ?_⟩
  · rw [if_pos q] at h
    obtain ⟨a, b⟩ := hs.1 q
    have := a.1
    have := a.2
    refine ⟨⟨by omega, by show 35 + 4 * x + k < 439; omega⟩, ?_⟩
    rw [hA.2.2.2.2.2.1 x k a b k0 k1]
    exact h
  · rw [if_neg q] at h
    obtain ⟨a, b⟩ := hs.2 q
    have := a.1
    have := a.2
    refine ⟨⟨by omega, by show 4 * x + k < 160; omega⟩, ?_⟩
    rw [b k k0 k1]
    exact h
theorem m_least {Q : Int → Prop} {a b : Int} (ha : jx_R a) (hb : jx_R b) (h : Q (min a b)) : wp_M_least Q a b := by
  refine ⟨ha, hb, fun q => ?_, fun q => ?_⟩
  · rw [show min a b = a by omega] at h; exact h
  · rw [show min a b = b by omega] at h; exact h
theorem m_most {Q : Int → Prop} {a b : Int} (ha : jx_R a) (hb : jx_R b) (h : Q (max a b)) : wp_M_most Q a b := by
  refine ⟨ha, hb, fun q => ?_, fun q => ?_⟩
  · rw [show max a b = b by omega] at h; exact h
  · rw [show max a b = a by omega] at h; exact h
/-- a side of the box around two -/
def sw (k a b : Int) : Int := if k < 2 then min a b else max a b
theorem sw_ar {a b k : Int} (ha : vb a) (hb : vb b) (k0 : 0 ≤ k) (k1 : k < 4) : bs (ar a b) k = sw k (bs a k) (bs b k) := by
  obtain ⟨e0, e1, e2, e3, _⟩ := ar_sides ha hb
  unfold sw
  have : k = 0 ∨ k = 1 ∨ k = 2 ∨ k = 3 := by omega
  rcases this with q | q | q | q
  · rw [q, e0, if_pos (by decide)]
  · rw [q, e1, if_pos (by decide)]
  · rw [q, e2, if_neg (by decide)]
  · rw [q, e3, if_neg (by decide)]
theorem sdk_row {σ μ : jx_St} {P : List (Int × Int)} {E : List Int} {n : Int} (hW : Ws σ P E) (hn : lvn σ n) (hL : ∀ x, x ∈ kids σ n → 0 < σ 2 n → ∀ k, 0 ≤ k → k < 4 → μ 7 (4 * x + k) = bs (σ 4 x) k) {k : Int} (k0 : 0 ≤ k) (k1 : k < σ 3 n) : sdk σ μ (th σ n k) (σ 2 n) := by
  refine ⟨fun q => ?_, fun q => ?_⟩
  · rcases (hW.2.2.2.2.1 n _ hn (th_kids k0 k1)).1 with ⟨_, a, b⟩ | ⟨a, _⟩
    · exact ⟨a, b⟩
    · omega
  · have hl : 0 < σ 2 n := by have := hn.2; omega
    exact ⟨(hW.kid hn hl (th_kids k0 k1)).1.1, hL _ (th_kids k0 k1) hl⟩
