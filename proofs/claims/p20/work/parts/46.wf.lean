/-! ===== the pure part: what holds of a tree, with things that wait ===== -/
def kids (σ : jx_St) (n : Int) : List Int := (List.range (σ 3 n).toNat).map (fun k : Nat => th σ n (k : Int))
theorem mem_kids {σ : jx_St} {n x : Int} : x ∈ kids σ n ↔ ∃ k, 0 ≤ k ∧ k < σ 3 n ∧ th σ n k = x := by
  unfold kids
  rw [List.mem_map]
  constructor
  · rintro ⟨k, hk, e⟩
    rw [List.mem_range] at hk
    exact ⟨(k : Int), by omega, by omega, e⟩
  · rintro ⟨k, h0, h1, e⟩
    refine ⟨k.toNat, List.mem_range.mpr (by omega), ?_⟩
    rw [Int.toNat_of_nonneg h0]
    exact e
theorem th_kids {σ : jx_St} {n k : Int} (h0 : 0 ≤ k) (h1 : k < σ 3 n) : th σ n k ∈ kids σ n := mem_kids.mpr ⟨k, h0, h1, rfl⟩
theorem kids_len {σ : jx_St} {n : Int} : (kids σ n).length = (σ 3 n).toNat := by unfold kids; simp
theorem kids_get {σ : jx_St} {n : Int} {k : Nat} (h : k < (σ 3 n).toNat) : (kids σ n)[k]? = some (th σ n (k : Int)) := by
  unfold kids
  rw [List.getElem?_map, List.getElem?_range h]
  rfl
theorem kids_same {σ τ : jx_St} {n : Int} (h3 : τ 3 n = σ 3 n) (h : ∀ k, 0 ≤ k → k < σ 3 n → th τ n k = th σ n k) : kids τ n = kids σ n := by
  unfold kids
  rw [h3]
  apply List.map_congr_left
  intro k hk
  rw [List.mem_range] at hk
  exact h (k : Int) (by omega) (by omega)
theorem nodup_th {σ : jx_St} {n j k : Int} (h : (kids σ n).Nodup) (j0 : 0 ≤ j) (j1 : j < σ 3 n) (k0 : 0 ≤ k) (k1 : k < σ 3 n) (e : th σ n j = th σ n k) : j = k := by
  have hj := kids_get (σ := σ) (n := n) (k := j.toNat) (by omega)
  have hk := kids_get (σ := σ) (n := n) (k := k.toNat) (by omega)
  rw [Int.toNat_of_nonneg j0] at hj
  rw [Int.toNat_of_nonneg k0] at hk
  rw [e, ← hk] at hj
  have := (List.getElem?_inj (by rw [kids_len]; omega) h).mp hj
  omega
/-- the row that a thing is noted in -/
def hm (σ : jx_St) (x l : Int) : Int := if l = 0 then σ 1 x else σ 5 x
/-- a thing that rows of a level may have -/
def alv (σ : jx_St) (x l : Int) : Prop := (l = 0 ∧ nb x ∧ σ 0 x ≠ -1) ∨ (0 < l ∧ lvn σ x ∧ σ 2 x = l - 1 ∧ x ≠ σ 7 0)
/-- the tree holds together; the things of P wait; the nodes of E may have too little -/
def Ws (σ : jx_St) (P : List (Int × Int)) (E : List Int) : Prop :=
  (lvn σ (σ 7 0) ∧ σ 2 (σ 7 0) ≤ 3 ∧ σ 5 (σ 7 0) = -1) ∧
  (∀ n, nd n → σ 2 n = -1 ∨ (0 ≤ σ 2 n ∧ σ 2 n ≤ σ 2 (σ 7 0))) ∧
  (∀ n, nd n → σ 2 n = -1 → σ 3 n = 0 ∧ σ 5 n = -1) ∧
  (∀ n, lvn σ n → 0 ≤ σ 3 n ∧ σ 3 n ≤ 5 ∧ (n ∈ E ∨ ((n ≠ σ 7 0 → 2 ≤ σ 3 n) ∧ (0 < σ 2 n → 1 ≤ σ 3 n)))) ∧
  (∀ n x, lvn σ n → x ∈ kids σ n → alv σ x (σ 2 n) ∧ hm σ x (σ 2 n) = n ∧ (x, σ 2 n) ∉ P) ∧
  (∀ n, lvn σ n → (kids σ n).Nodup) ∧
  (∀ x l, alv σ x l → (x, l) ∈ P ∨ (lvn σ (hm σ x l) ∧ σ 2 (hm σ x l) = l ∧ x ∈ kids σ (hm σ x l))) ∧
  (∀ x l, (x, l) ∈ P → alv σ x l ∧ (0 < l → σ 5 x = -1)) ∧
  P.Nodup ∧
  (∀ b, nb b → σ 0 b = -1 ∨ vb (σ 0 b))
theorem alv_uniq {σ : jx_St} {x l m : Int} (h : alv σ x l) (h2 : alv σ x m) (e : l = 0 ↔ m = 0) : l = m := by
  rcases h with ⟨a, _⟩ | ⟨a, _, b, _⟩
  · rw [a, e.mp a]
  · rcases h2 with ⟨c, _⟩ | ⟨c, _, d, _⟩
    · have := e.mpr c; omega
    · omega
theorem Ws.sh {σ : jx_St} {P : List (Int × Int)} {E : List Int} (h : Ws σ P E) : Sh σ := by
  obtain ⟨w1, w2, w3, w4, w5, w6, w7, w8, w9, w10⟩ := h
  refine ⟨fun m hq => ?_, fun m k hq h0 h1 => ⟨fun e => ?_, fun e => ?_⟩, fun m hq => ?_⟩
  · have := w4 m hq
    have h2 := w2 m hq.1
    have := hq.2
    exact ⟨by omega, by omega, by omega⟩
  · obtain ⟨a, b, _⟩ := w5 m _ hq (th_kids h0 h1)
    rcases a with ⟨_, a, c⟩ | ⟨a, _⟩
    · exact ⟨a, (w10 _ a).resolve_left c⟩
    · omega
  · obtain ⟨a, b, _⟩ := w5 m _ hq (th_kids h0 h1)
    rcases a with ⟨a, _⟩ | ⟨_, a, c, _⟩
    · omega
    · refine ⟨a, c, ?_⟩
      simp only [hm] at b
      rw [if_neg (by omega)] at b
      exact b
  · by_cases e : m = σ 7 0
    · rw [e]; exact Or.inl w1.2.2
    · have ha : alv σ m (σ 2 m + 1) := Or.inr ⟨by have := hq.2; omega, hq, by omega, e⟩
      have hz : hm σ m (σ 2 m + 1) = σ 5 m := if_neg (by have := hq.2; omega)
      rcases w7 m _ ha with a | a
      · exact Or.inl ((w8 _ _ a).2 (by have := hq.2; omega))
      · rw [hz] at a
        exact Or.inr ⟨a.1, a.2.1⟩
theorem nodup_kids {σ : jx_St} {n : Int} (h : ∀ j k, 0 ≤ j → j < k → k < σ 3 n → th σ n j ≠ th σ n k) : (kids σ n).Nodup := by
  unfold kids
  refine List.pairwise_map.mpr (List.Pairwise.imp_of_mem (R := fun a b => a < b) (fun ha hb hab => ?_) List.pairwise_lt_range)
  rw [List.mem_range] at ha hb
  exact h _ _ (by omega) (by omega) (by omega)
theorem th_ad {σ : jx_St} {n p x k : Int} (k1 : k ≤ σ 3 n) : th (adF σ n p x) n k = if k = p then x else if p < k then th σ n (k - 1) else th σ n k := by
  simp only [th, adF, if_true]
  by_cases a : k = p
  · rw [if_pos (by omega), if_pos a]
  · rw [if_neg (by omega), if_neg a]
    by_cases b : p < k
    · rw [if_pos (by omega), if_pos b]
      congr 1; omega
    · rw [if_neg (by omega), if_neg b]
theorem th_ad_ne {σ : jx_St} {n p x m k : Int} (hne : m ≠ n) (k0 : 0 ≤ k) (k1 : k < 5) (h4 : σ 3 n ≤ 4) (hp : 0 ≤ p ∧ p ≤ σ 3 n) : th (adF σ n p x) m k = th σ m k := by
  simp only [th, adF, if_true]
  rw [if_neg (by omega), if_neg (by omega)]
theorem kids_ad_ne {σ : jx_St} {n p x m : Int} (hne : m ≠ n) (hm : σ 3 m ≤ 5) (h4 : σ 3 n ≤ 4) (hp : 0 ≤ p ∧ p ≤ σ 3 n) : kids (adF σ n p x) m = kids σ m := by
  apply kids_same
  · simp only [adF]; simp [hne]
  · intro k k0 k1
    exact th_ad_ne hne k0 (by omega) h4 hp
theorem kids_ad {σ : jx_St} {n p x y : Int} (h0 : 0 ≤ σ 3 n) (hp : 0 ≤ p ∧ p ≤ σ 3 n) : y ∈ kids (adF σ n p x) n ↔ y = x ∨ y ∈ kids σ n := by
  have e3 : adF σ n p x 3 n = σ 3 n + 1 := by simp [adF]
  rw [mem_kids, mem_kids, e3]
  constructor
  · rintro ⟨k, k0, k1, e⟩
    rw [th_ad (by omega)] at e
    by_cases a : k = p
    · rw [if_pos a] at e; exact Or.inl e.symm
    · rw [if_neg a] at e
      by_cases b : p < k
      · rw [if_pos b] at e; exact Or.inr ⟨k - 1, by omega, by omega, e⟩
      · rw [if_neg b] at e; exact Or.inr ⟨k, k0, by omega, e⟩
  · rintro (e | ⟨k, k0, k1, e⟩)
    · exact ⟨p, hp.1, by omega, by rw [th_ad hp.2, if_pos rfl, e]⟩
    · by_cases b : k < p
      · exact ⟨k, k0, by omega, by rw [th_ad (by omega), if_neg (by omega), if_neg (by omega), e]⟩
      · exact ⟨k + 1, by omega, by omega, by rw [th_ad (by omega), if_neg (by omega), if_pos (by omega), show k + 1 - 1 = k by omega, e]⟩
theorem kids_ad_nodup {σ : jx_St} {n p x : Int} (h0 : 0 ≤ σ 3 n) (hp : 0 ≤ p ∧ p ≤ σ 3 n) (hx : x ∉ kids σ n) (hd : (kids σ n).Nodup) : (kids (adF σ n p x) n).Nodup := by
  have e3 : adF σ n p x 3 n = σ 3 n + 1 := by simp [adF]
  have hq : ∀ k, 0 ≤ k → k < σ 3 n → th σ n k ≠ x := fun k k0 k1 e => hx (mem_kids.mpr ⟨k, k0, k1, e⟩)
  refine nodup_kids (fun j k j0 jk k1 e => ?_)
  rw [e3] at k1
  rw [th_ad (by omega), th_ad (by omega)] at e
  by_cases a : j = p
  · rw [if_pos a, if_neg (by omega), if_pos (by omega)] at e
    exact hq _ (by omega) (by omega) e.symm
  · rw [if_neg a] at e
    by_cases b : k = p
    · rw [if_pos b, if_neg (by omega)] at e
      exact hq _ (by omega) (by omega) e
    · rw [if_neg b] at e
      by_cases c : p < j
      · rw [if_pos c, if_pos (by omega)] at e
        have := nodup_th hd (by omega) (by omega) (by omega) (by omega) e
        omega
      · rw [if_neg c] at e
        by_cases d : p < k
        · rw [if_pos d] at e
          have := nodup_th hd (by omega) (by omega) (by omega) (by omega) e
          omega
        · rw [if_neg d] at e
          have := nodup_th hd (by omega) (by omega) (by omega) (by omega) e
          omega
theorem hm_ad {σ : jx_St} {n p x y m : Int} (hx : alv σ x (σ 2 n)) (hy : alv σ y m) : hm (adF σ n p x) y m = if y = x ∧ m = σ 2 n then n else hm σ y m := by
  by_cases e : m = 0 ↔ σ 2 n = 0
  · have e5 : hm (adF σ n p x) y m = if y = x then n else hm σ y m := by
      by_cases z : σ 2 n = 0
      · simp only [hm, adF, if_pos z, if_pos (e.mpr z)]
        simp
      · simp only [hm, adF, if_neg z, if_neg (fun q => z (e.mp q))]
        simp
    rw [e5]
    by_cases yx : y = x
    · subst yx
      rw [if_pos rfl, if_pos ⟨rfl, alv_uniq hy hx e⟩]
    · rw [if_neg yx, if_neg (fun q => yx q.1)]
  · rw [if_neg (fun q => e (by rw [q.2]))]
    by_cases z : σ 2 n = 0
    · simp only [hm, adF, if_pos z, if_neg (fun q => e ⟨fun _ => z, fun _ => q⟩ : ¬ m = 0)]
      simp
    · have z2 : m = 0 := Decidable.byContradiction (fun q => e ⟨fun a => absurd a q, fun a => absurd a z⟩)
      simp only [hm, adF, if_neg z, if_pos z2]
      simp
/-- a thing that waited comes into a row -/
theorem ws_attach {σ : jx_St} {P : List (Int × Int)} {E : List Int} {n x l p : Int} (h : Ws σ ((x, l) :: P) E) (hn : lvn σ n) (hl : σ 2 n = l) (h4 : σ 3 n ≤ 4) (hp : 0 ≤ p ∧ p ≤ σ 3 n) : Ws (adF σ n p x) P E := by
  obtain ⟨w1, w2, w3, w4, w5, w6, w7, w8, w9, w10⟩ := h
  subst hl
  have n4 := w4 n hn
  obtain ⟨xa, x5⟩ := w8 x (σ 2 n) List.mem_cons_self
  have e0 : adF σ n p x 0 = σ 0 := by funext i; simp only [adF]; rw [if_neg (by decide), if_neg (by decide), if_neg (by split <;> decide)]
  have e2 : adF σ n p x 2 = σ 2 := by funext i; simp only [adF]; rw [if_neg (by decide), if_neg (by decide), if_neg (by split <;> decide)]
  have e7 : adF σ n p x 7 = σ 7 := by funext i; simp only [adF]; rw [if_neg (by decide), if_neg (by decide), if_neg (by split <;> decide)]
  have e3 : ∀ m, adF σ n p x 3 m = if m = n then σ 3 n + 1 else σ 3 m := fun m => by simp [adF]
  have e5 : ∀ m, adF σ n p x 5 m = σ 5 m ∨ (0 < σ 2 n ∧ m = x ∧ adF σ n p x 5 m = n) := fun m => by
    simp only [adF]
    rw [if_neg (by decide), if_neg (by decide)]
    by_cases z : σ 2 n = 0
    · rw [if_pos z, if_neg (by decide)]; exact Or.inl rfl
    · rw [if_neg z, if_pos rfl]
      by_cases y : m = x
      · rw [if_pos y]; exact Or.inr ⟨by have := hn.2; omega, y, rfl⟩
      · rw [if_neg y]; exact Or.inl rfl
  have lv' : ∀ m, lvn (adF σ n p x) m ↔ lvn σ m := fun m => by unfold lvn; rw [e2]
  have al' : ∀ y m, alv (adF σ n p x) y m ↔ alv σ y m := fun y m => by unfold alv; rw [e0, e2, e7, lv']
  have kn : ∀ m, lvn σ m → m ≠ n → kids (adF σ n p x) m = kids σ m := fun m hm hne => kids_ad_ne hne (w4 m hm).2.1 h4 hp
  have xno : ∀ m, lvn σ m → σ 2 m = σ 2 n → x ∉ kids σ m := fun m hm e hx => (w5 m x hm hx).2.2 (by rw [e]; exact List.mem_cons_self)
  have sub : ∀ (y z : Int), (y, z) ∉ (x, σ 2 n) :: P → (y, z) ∉ P := fun y z hy hz => hy (List.mem_cons_of_mem _ hz)
  have xnotP : (x, σ 2 n) ∉ P := (List.nodup_cons.mp w9).1
  have x7 : 0 < σ 2 n → x ≠ σ 7 0 := fun z => by
    rcases xa with ⟨a, _⟩ | ⟨_, _, _, a⟩
    · omega
    · exact a
  have hx5 : ∀ m, m ≠ x → adF σ n p x 5 m = σ 5 m := fun m hm => (e5 m).resolve_right (fun q => hm q.2.1)
  refine ⟨?_, ?_, ?_, ?_, ?_, ?_, ?_, ?_, (List.nodup_cons.mp w9).2, by rw [e0]; exact w10⟩
  · rw [e7, e2, lv']
    refine ⟨w1.1, w1.2.1, ?_⟩
    rcases e5 (σ 7 0) with a | ⟨a, b, _⟩
    · rw [a]; exact w1.2.2
    · exact absurd b.symm (x7 a)
  · rw [e7, e2]; exact w2
  · intro m hm h2
    rw [e2] at h2
    rw [e3, if_neg (fun e => by subst e; have := hn.2; omega)]
    refine ⟨(w3 m hm h2).1, ?_⟩
    rcases e5 m with a | ⟨a, b, _⟩
    · rw [a]; exact (w3 m hm h2).2
    · rcases xa with ⟨c, _⟩ | ⟨_, c, _, _⟩
      · omega
      · have := c.2; rw [← b] at this; omega
  · intro m hm
    have hm' := (lv' m).mp hm
    obtain ⟨a, b, c⟩ := w4 m hm'
    rw [e7, e2, e3]
    split
    · next e => subst e; exact ⟨by omega, by omega, c.imp_right (fun q => ⟨fun z => by have := q.1 z; omega, fun z => by omega⟩)⟩
    · exact ⟨a, b, c⟩
  · intro m y hm hy
    have hm' := (lv' m).mp hm
    rw [e2, al']
    by_cases e : m = n
    · subst e
      rw [kids_ad n4.1 hp] at hy
      rcases hy with hy | hy
      · subst hy
        exact ⟨xa, by rw [hm_ad xa xa, if_pos ⟨rfl, rfl⟩], xnotP⟩
      · obtain ⟨a, b, c⟩ := w5 m y hm' hy
        refine ⟨a, ?_, sub _ _ c⟩
        rw [hm_ad xa a, b]
        split <;> rfl
    · rw [kn m hm' e] at hy
      obtain ⟨a, b, c⟩ := w5 m y hm' hy
      refine ⟨a, ?_, sub _ _ c⟩
      rw [hm_ad xa a, if_neg (fun q => c (by rw [q.1, q.2]; exact List.mem_cons_self))]
      exact b
  · intro m hm
    have hm' := (lv' m).mp hm
    by_cases e : m = n
    · subst e
      exact kids_ad_nodup n4.1 hp (xno m hm' rfl) (w6 m hm')
    · rw [kn m hm' e]; exact w6 m hm'
  · intro y m hy
    have hy' := (al' y m).mp hy
    rw [hm_ad xa hy', lv', e2]
    by_cases e : y = x ∧ m = σ 2 n
    · rw [if_pos e]
      exact Or.inr ⟨hn, e.2.symm, (kids_ad n4.1 hp).mpr (Or.inl e.1)⟩
    · rw [if_neg e]
      rcases w7 y m hy' with a | ⟨a, b, c⟩
      · rcases List.mem_cons.mp a with z | z
        · exact absurd ⟨congrArg Prod.fst z, congrArg Prod.snd z⟩ e
        · exact Or.inl z
      · refine Or.inr ⟨a, b, ?_⟩
        by_cases e2 : hm σ y m = n
        · rw [e2] at c ⊢
          exact (kids_ad n4.1 hp).mpr (Or.inr c)
        · rw [kn _ a e2]; exact c
  · intro y m hy
    obtain ⟨a, b⟩ := w8 y m (List.mem_cons_of_mem _ hy)
    refine ⟨(al' y m).mpr a, fun hm => ?_⟩
    rcases e5 y with c | ⟨c, d, _⟩
    · rw [c]; exact b hm
    · exfalso
      subst d
      have : m = σ 2 n := alv_uniq a xa ⟨fun q => by omega, fun q => by omega⟩
      rw [this] at hy
      exact xnotP hy
