/-! ===== the pure part: the nodes of a level by their places ===== -/
theorem smL_cons (f : Int → Int) (x : Int) (l : List Int) : smL f (x :: l) = f x + smL f l := rfl
theorem smL_perm {f : Int → Int} {a b : List Int} (h : a.Perm b) : smL f a = smL f b := by
  induction h with
  | nil => rfl
  | cons x _ ih => rw [smL_cons, smL_cons, ih]
  | swap x y l => simp only [smL_cons]; omega
  | trans _ _ i1 i2 => exact i1.trans i2
theorem smL_filter {f : Int → Int} {p : Int → Bool} {l : List Int} (h : ∀ x ∈ l, p x = false → f x = 0) : smL f (l.filter p) = smL f l := by
  induction l with
  | nil => rfl
  | cons x l ih =>
    have ih := ih (fun y hy => h y (List.mem_cons_of_mem _ hy))
    by_cases c : p x = true
    · rw [List.filter_cons_of_pos c, smL_cons, smL_cons, ih]
    · rw [List.filter_cons_of_neg c, smL_cons, ih, h x List.mem_cons_self (by simpa using c)]
      omega
theorem sn_exists {σ : jx_St} {P : List (Int × Int)} {E : List Int} {top : Int} (hW : Ws σ P E) (ht : lvn σ top) : ∃ ψ S, Sn σ ψ top S :=
  ex_S_lookFrom (p_lookFrom (Q := fun _ => ∃ ψ S, Sn σ ψ top S) (ψ := fun _ _ => 0) hW ht (fun ψ' S h => ⟨ψ', S, h⟩)) (fun _ h => h)
theorem sn_all {σ ψ : jx_St} {S : List Int} (hW : Ws σ [] []) (hS : Sn σ ψ (σ 7 0) S) : ∀ m, lvn σ m → m ∈ S := by
  obtain ⟨_, _, _, hS4, _, _⟩ := hS
  have key : ∀ (k : Nat) (m : Int), lvn σ m → σ 2 (σ 7 0) - σ 2 m ≤ (k : Int) → m ∈ S := by
    intro k
    induction k with
    | zero =>
      intro m hm hk
      by_cases c : m = σ 7 0
      · rw [c, hS4]; exact List.mem_cons_self
      · have ha : alv σ m (σ 2 m + 1) := Or.inr ⟨by have := hm.2; omega, hm, by omega, c⟩
        have h1 := (hW.2.2.2.2.2.2.1 m _ ha).resolve_left List.not_mem_nil
        have := ((hW.2.1 _ h1.1.1).resolve_left (by have := h1.1.2; omega)).2
        omega
    | succ k ih =>
      intro m hm hk
      by_cases c : m = σ 7 0
      · rw [c, hS4]; exact List.mem_cons_self
      · have ha : alv σ m (σ 2 m + 1) := Or.inr ⟨by have := hm.2; omega, hm, by omega, c⟩
        have h1 := (hW.2.2.2.2.2.2.1 m _ ha).resolve_left List.not_mem_nil
        have h2 := ih _ h1.1 (by omega)
        rw [hS4]
        exact List.mem_cons_of_mem _ (List.mem_flatMap.mpr ⟨_, h2, mem_ch.mpr ⟨by have := hm.2; omega, h1.2.2⟩⟩)
  intro m hm
  exact key (σ 2 (σ 7 0) - σ 2 m).toNat m hm (by omega)
theorem sn_perm {σ ψ : jx_St} {S : List Int} (hW : Ws σ [] []) (hS : Sn σ ψ (σ 7 0) S) : S.Perm (nds.filter (fun n => decide (0 ≤ σ 2 n))) := by
  refine (List.perm_ext_iff_of_nodup hS.2.2.2.2.1 (List.Pairwise.filter _ nds_nodup)).mpr (fun a => ?_)
  rw [List.mem_filter, mem_nds]
  constructor
  · intro h
    have := (hS.2.2.2.2.2 a h).1
    exact ⟨this.1, by simpa using this.2⟩
  · rintro ⟨h1, h2⟩
    exact sn_all hW hS a ⟨h1, by simpa using h2⟩
theorem sn_sum {σ ψ : jx_St} {S : List Int} {g : Int → Int} (hW : Ws σ [] []) (hS : Sn σ ψ (σ 7 0) S) (hg : ∀ n, nd n → σ 2 n = -1 → g n = 0) : smL g S = smL g nds := by
  rw [smL_perm (sn_perm hW hS)]
  refine smL_filter (fun x hx hc => hg x (mem_nds.mp hx) ?_)
  rcases hW.2.1 x (mem_nds.mp hx) with z | z
  · exact z
  · have : ¬ (0 ≤ σ 2 x) := by simpa using hc
    exact absurd z.1 this
/-- the nodes of a level -/
def FS (σ : jx_St) (S : List Int) (l : Int) : List Int := S.filter (fun x => decide (σ 2 x = l))
theorem mem_FS {σ : jx_St} {S : List Int} {l x : Int} : x ∈ FS σ S l ↔ x ∈ S ∧ σ 2 x = l := by unfold FS; rw [List.mem_filter, decide_eq_true_iff]
theorem fs_top {σ ψ : jx_St} {S : List Int} {P : List (Int × Int)} {E : List Int} {top : Int} (hW : Ws σ P E) (hS : Sn σ ψ top S) : FS σ S (σ 2 top) = [top] := by
  obtain ⟨_, _, _, hS4, _, hS6⟩ := hS
  have e : (S.flatMap (ch σ)).filter (fun x => decide (σ 2 x = σ 2 top)) = [] := by
    rw [List.filter_eq_nil_iff]
    intro a ha hd
    obtain ⟨x, hx, hc⟩ := List.mem_flatMap.mp ha
    obtain ⟨c1, c2⟩ := mem_ch.mp hc
    have h1 := hS6 x hx
    have h2 := (hW.kid h1.1 c1 c2).2.1
    have : σ 2 a = σ 2 top := by simpa using hd
    omega
  unfold FS
  rw [hS4, List.filter_cons_of_pos (by simp), e]
theorem fs_down {σ ψ : jx_St} {S : List Int} {P : List (Int × Int)} {E : List Int} {top l : Int} (hW : Ws σ P E) (hS : Sn σ ψ top S) (l0 : 0 ≤ l) (l1 : l < σ 2 top) : FS σ S l = (FS σ S (l + 1)).flatMap (kids σ) := by
  obtain ⟨_, _, _, hS4, _, hS6⟩ := hS
  have e1 : FS σ S l = (S.flatMap (ch σ)).filter (fun x => decide (σ 2 x = l)) := by
    unfold FS
    conv => lhs; rw [hS4]
    rw [List.filter_cons_of_neg (by simp; omega)]
  rw [e1]
  unfold FS
  have key : ∀ L : List Int, (∀ x ∈ L, lvn σ x) → (L.flatMap (ch σ)).filter (fun x => decide (σ 2 x = l)) = (L.filter (fun x => decide (σ 2 x = l + 1))).flatMap (kids σ) := by
    intro L
    induction L with
    | nil => intro _; rfl
    | cons x L ih =>
      intro h
      have hx := h x List.mem_cons_self
      have ih := ih (fun y hy => h y (List.mem_cons_of_mem _ hy))
      rw [List.flatMap_cons, List.filter_append, ih]
      by_cases c : σ 2 x = l + 1
      · rw [List.filter_cons_of_pos (by simpa using c), List.flatMap_cons]
        congr 1
        have ec : ch σ x = kids σ x := by unfold ch; rw [if_pos (by omega)]
        rw [ec, List.filter_eq_self]
        intro a ha
        have := (hW.kid hx (by omega) ha).2.1
        simp; omega
      · rw [List.filter_cons_of_neg (by simpa using c)]
        have : (ch σ x).filter (fun x => decide (σ 2 x = l)) = [] := by
          rw [List.filter_eq_nil_iff]
          intro a ha hd
          obtain ⟨c1, c2⟩ := mem_ch.mp ha
          have := (hW.kid hx c1 c2).2.1
          have : σ 2 a = l := by simpa using hd
          omega
        rw [this, List.nil_append]
  exact key S (fun x hx => (hS6 x hx).1)
theorem sn_len {σ ψ : jx_St} {S : List Int} {top : Int} (hS : Sn σ ψ top S) : S.length ≤ 32 ∧ (S.length : Int) = ψ 2 0 := by
  obtain ⟨h1, h2, h3, _⟩ := hS
  rw [h3, fl_len]
  omega
theorem fs_len {σ ψ : jx_St} {S : List Int} {top l : Int} (hS : Sn σ ψ top S) : (FS σ S l).length ≤ 32 := Nat.le_trans (List.length_filter_le _ _) (sn_len hS).1
