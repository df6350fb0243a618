/-! ===== the pure part: splitting, the two rows ===== -/
theorem clN_ne {σ : jx_St} {n : Int} (k : Nat) (hs : σ 3 n ≤ 5) (hk : (k : Int) ≤ σ 3 n) : (∀ m, m ≠ n → clN σ n k 3 m = σ 3 m) ∧ (∀ m j, m ≠ n → 0 ≤ j → j < 5 → th (clN σ n k) m j = th σ m j) ∧ (∀ q i, q ≠ 6 → q ≠ 3 → q ≠ 1 → q ≠ 5 → clN σ n k q i = σ q i) := by
  induction k with
  | zero => exact ⟨fun _ _ => rfl, fun _ _ _ _ _ => rfl, fun _ _ _ _ _ _ => rfl⟩
  | succ k ih =>
    obtain ⟨a, b, c⟩ := ih (by omega)
    have e3 := (clN_23 (σ := σ) (n := n) k).2
    refine ⟨fun m hm => ?_, fun m j hm j0 j1 => ?_, fun q i h6 h3 h1 h5 => ?_⟩
    · simp only [clN, rmF]
      rw [if_neg (by decide), if_pos trivial, if_neg hm]
      exact a m hm
    · simp only [clN]
      rw [th_rm_ne hm j0 j1 (by rw [e3]; omega) ⟨by omega, by rw [e3]; omega⟩]
      exact b m j hm j0 j1
    · simp only [clN, rmF]
      rw [if_neg h6, if_neg h3, if_neg (by split; exact h1; exact h5)]
      exact c q i h6 h3 h1 h5
def wcl (c : Int → Int) (l i : Int) : Nat → List (Int × Int)
  | 0 => []
  | k + 1 => (c i, l) :: wcl c l (i + 1) k
/-- after so many things of a split node have come to its two parts -/
def spJ (σ : jx_St) (P : List (Int × Int)) (n f cut : Int) (c : Int → Int) (τ : jx_St) (i : Int) : Prop :=
  Ws τ (wcl c (σ 2 n) i (5 - i).toNat ++ (f, σ 2 n + 1) :: P) [n, f] ∧ (∃ X, (∀ m ∈ X, m = n ∨ m = f) ∧ Hs τ X) ∧
  τ 3 n = min i cut ∧ τ 3 f = i - min i cut ∧ (∀ j, 0 ≤ j → j < min i cut → th τ n j = c j) ∧ (∀ j, 0 ≤ j → j < i - min i cut → th τ f j = c (cut + j)) ∧
  (∀ m, m ≠ n → m ≠ f → τ 3 m = σ 3 m) ∧ (∀ m j, m ≠ n → m ≠ f → 0 ≤ j → j < 5 → th τ m j = th σ m j) ∧
  (∀ m, τ 2 m = if m = f then σ 2 n else σ 2 m) ∧ (∀ q i, q ≠ 1 → q ≠ 2 → q ≠ 3 → q ≠ 4 → q ≠ 5 → q ≠ 6 → τ q i = σ q i)
theorem spJ_step {σ τ : jx_St} {P : List (Int × Int)} {n f cut i : Int} {c : Int → Int} (hf : n ≠ f) (hn : lvn σ n) (hfn : nd f) (hc : 2 ≤ cut ∧ cut ≤ 3) (i0 : 0 ≤ i) (i1 : i < 5) (h : spJ σ P n f cut c τ i) (part : Int) (hp : part = if i < cut then n else f) : lvn τ part ∧ τ 2 part = σ 2 n ∧ 0 ≤ τ 3 part ∧ τ 3 part ≤ 4 ∧ tv (c i) (σ 2 n) ∧ spJ σ P n f cut c (adF τ part (τ 3 part) (c i)) (i + 1) := by
  obtain ⟨jW, ⟨X, jX, jH⟩, j3n, j3f, jn, jf, j3, jt, j2, jr⟩ := h
  have l0 := hn.2
  have l2n : τ 2 n = σ 2 n := by rw [j2, if_neg hf]
  have l2f : τ 2 f = σ 2 n := by rw [j2, if_pos rfl]
  have hpl : lvn τ part ∧ τ 2 part = σ 2 n := by
    rw [hp]
    split
    · exact ⟨⟨hn.1, by rw [l2n]; exact l0⟩, l2n⟩
    · exact ⟨⟨hfn, by rw [l2f]; exact l0⟩, l2f⟩
  have hps : τ 3 part = if i < cut then i else i - cut := by
    rw [hp]
    split
    · rw [j3n]; omega
    · rw [j3f]; omega
  have hs0 : 0 ≤ τ 3 part ∧ τ 3 part ≤ 4 := by rw [hps]; split <;> omega
  rw [show (5 - i).toNat = (5 - (i + 1)).toNat + 1 by omega] at jW
  simp only [wcl, List.cons_append] at jW
  have hW2 := ws_attach (p := τ 3 part) jW hpl.1 hpl.2 hs0.2 ⟨hs0.1, Int.le_refl _⟩
  have hH2 := hs_ad (x := c i) (p := τ 3 part) jW jH hpl.1 hs0.2 ⟨hs0.1, Int.le_refl _⟩
  have hal := (jW.2.2.2.2.2.2.2.1 _ _ List.mem_cons_self).1
  have ad3 : ∀ m, adF τ part (τ 3 part) (c i) 3 m = if m = part then τ 3 part + 1 else τ 3 m := fun m => by simp [adF]
  have ad2 : ∀ m, adF τ part (τ 3 part) (c i) 2 m = τ 2 m := fun m => by simp only [adF]; rw [if_neg (by decide), if_neg (by decide), if_neg (by split <;> decide)]
  have pnf : ∀ m, m ≠ n → m ≠ f → m ≠ part := fun m a b => by rw [hp]; split; exact a; exact b
  refine ⟨hpl.1, hpl.2, hs0.1, hs0.2, ?_, hW2, ⟨part :: X, fun m hm => ?_, hH2⟩, ?_, ?_, fun j j0 j1 => ?_, fun j j0 j1 => ?_, fun m a b => ?_, fun m j a b j0 j1 => ?_, fun m => ?_, fun q k h1 h2 h3 h4 h5 h6 => ?_⟩
  · unfold tv
    rcases hal with ⟨a, b, _⟩ | ⟨a, b, _⟩
    · rw [if_pos a]; exact b
    · rw [if_neg (by omega)]; exact b.1
  · rcases List.mem_cons.mp hm with z | z
    · rw [z, hp]
      split
      · exact Or.inl rfl
      · exact Or.inr rfl
    · exact jX m z
  · rw [ad3, hp]
    by_cases q : i < cut
    · rw [if_pos q, if_pos rfl, j3n]; omega
    · rw [if_neg q, if_neg hf, j3n]; omega
  · rw [ad3, hp]
    by_cases q : i < cut
    · rw [if_pos q, if_neg (fun e => hf e.symm), j3f]; omega
    · rw [if_neg q, if_pos rfl, j3f]; omega
  · by_cases q : i < cut
    · rw [if_pos q] at hp hps
      subst hp
      rw [th_ad (by omega)]
      by_cases z : j = i
      · rw [if_pos (by omega), z]
      · rw [if_neg (by omega), if_neg (by omega)]
        exact jn j j0 (by omega)
    · rw [if_neg q] at hp hps
      subst hp
      rw [th_ad_ne hf j0 (by omega) hs0.2 ⟨hs0.1, Int.le_refl _⟩]
      exact jn j j0 (by omega)
  · by_cases q : i < cut
    · rw [if_pos q] at hp hps
      subst hp
      rw [th_ad_ne (fun e => hf e.symm) j0 (by omega) hs0.2 ⟨hs0.1, Int.le_refl _⟩]
      exact jf j j0 (by omega)
    · rw [if_neg q] at hp hps
      subst hp
      rw [th_ad (by omega)]
      by_cases z : j = i - cut
      · rw [if_pos (by omega), z]
        congr 1
        omega
      · rw [if_neg (by omega), if_neg (by omega)]
        exact jf j j0 (by omega)
  · rw [ad3, if_neg (pnf m a b)]; exact j3 m a b
  · rw [th_ad_ne (pnf m a b) j0 j1 hs0.2 ⟨hs0.1, Int.le_refl _⟩]; exact jt m j a b j0 j1
  · rw [ad2]; exact j2 m
  · simp only [adF]
    rw [if_neg h6, if_neg h3, if_neg (by split; exact h1; exact h5)]
    exact jr q k h1 h2 h3 h4 h5 h6
theorem p_spl48 {Q : Int → jx_St → jx_St → Prop} {K : jx_St → Prop} {ρ σ τ : jx_St} {P : List (Int × Int)} {n f cut : Int} {c : Int → Int} (hf : n ≠ f) (hn : lvn σ n) (hfn : nd f) (hc : 2 ≤ cut ∧ cut ≤ 3) (hl : σ 2 n ≤ 3) (hr : ∀ j, 0 ≤ j → j < 5 → ρ 10 j = c j) (h : spJ σ P n f cut c τ 0) (hK : ∀ τ', spJ σ P n f cut c τ' 5 → K τ') : jx_lp (fun B48v v48 => wp_C_split_48 Q n K ρ cut f B48v v48.1 v48.2) (τ, 0) := by
  refine jx_loop (fun v => 0 ≤ v.2 ∧ v.2 ≤ 5 ∧ spJ σ P n f cut c v.1 v.2) (fun v => (5 - v.2).toNat) (fun B v hI hB => ?_) ⟨Int.le_refl _, by show (0 : Int) ≤ 5; decide, h⟩
  obtain ⟨τ1, i⟩ := v
  obtain ⟨a1, a2, a3⟩ := hI
  dsimp only at a1 a2 a3 ⊢
  refine ⟨jx_inR (by omega) (by omega), fun q => ⟨jx_inR (by omega) (by omega), jx_inR (by omega) (by omega), ?_⟩, fun q => ?_⟩
  · have step : ∀ part, part = (if i < cut then n else f) → wp_C_split_66 Q n B K ρ τ1 cut f i part := by
      intro part hp
      obtain ⟨b1, b2, b3, b4, b5, b6⟩ := spJ_step hf hn hfn hc a1 q a3 part hp
      refine p_sizeOf b1.1 ⟨jx_inR (by omega) (by omega), ?_⟩
      rw [jx_at_in (by omega) (by omega), hr i a1 q]
      exact p_add b1.1 ⟨b3, by omega⟩ ⟨b3, Int.le_refl _⟩ (by rw [b2]; exact jx_inR (by have := hn.2; omega) (by omega)) (by rw [b2]; exact b5) (hB _ ⟨by show 0 ≤ i + 1; omega, by show i + 1 ≤ 5; omega, b6⟩ (by show (5 - (i + 1)).toNat < (5 - i).toNat; omega))
    exact ⟨fun z => step n (by rw [if_pos z]), fun z => step f (by rw [if_neg z])⟩
  · have e : i = 5 := by omega
    subst e
    exact hK τ1 a3
theorem wl_mem {σ : jx_St} {n : Int} {P : List (Int × Int)} (a : Int × Int) (k : Nat) : a ∈ wl σ n P k ↔ (∃ j, σ 3 n - (k : Int) ≤ j ∧ j < σ 3 n ∧ a = (th σ n j, σ 2 n)) ∨ a ∈ P := by
  induction k with
  | zero => exact ⟨Or.inr, fun q => q.resolve_left (fun ⟨j, a, b, _⟩ => by omega)⟩
  | succ k ih =>
    simp only [wl, List.mem_cons, ih]
    constructor
    · rintro (e | ⟨j, j0, j1, e⟩ | e)
      · exact Or.inl ⟨_, by omega, by omega, e⟩
      · exact Or.inl ⟨j, by omega, j1, e⟩
      · exact Or.inr e
    · rintro (⟨j, j0, j1, e⟩ | e)
      · by_cases z : j = σ 3 n - (k : Int) - 1
        · rw [z] at e; exact Or.inl e
        · exact Or.inr (Or.inl ⟨j, by omega, j1, e⟩)
      · exact Or.inr (Or.inr e)
theorem wcl_fl {c : Int → Int} {l : Int} : wcl c l 0 5 = (fl c 5).map (fun x => (x, l)) := by
  simp only [wcl, fl]
  rfl
/-- the start: the new node is there, and the row is empty -/
theorem spJ_start {σ : jx_St} {P : List (Int × Int)} {n f cut ax : Int} (hW : Ws σ P []) (hH : Hs σ []) (hn : lvn σ n) (h5 : σ 3 n = 5) (hf : nd f) (he : σ 2 f = -1) (hc : 2 ≤ cut) : spJ σ P n f cut (wS σ n ax) (clN (jx_su σ 2 f (σ 2 n)) n 5) 0 := by
  have l0 := hn.2
  have hnf : n ≠ f := fun e => by rw [e, he] at l0; omega
  have w2 := (hW.2.1 n hn.1).resolve_left (by omega)
  have hWa := ws_new hW hf he ⟨l0, w2.2⟩
  have hHa : Hs (jx_su σ 2 f (σ 2 n)) [f] := hs_new hW hH
  have a2 : ∀ m, jx_su σ 2 f (σ 2 n) 2 m = if m = f then σ 2 n else σ 2 m := fun m => jx_su_same
  have ar : ∀ q i, q ≠ 2 → jx_su σ 2 f (σ 2 n) q i = σ q i := fun q i h => jx_su_ne h
  have a3 : jx_su σ 2 f (σ 2 n) 3 n = 5 := by rw [ar _ _ (by decide), h5]
  have a2n : jx_su σ 2 f (σ 2 n) 2 n = σ 2 n := by rw [a2, if_neg hnf]
  have hna : lvn (jx_su σ 2 f (σ 2 n)) n := ⟨hn.1, by rw [a2n]; exact l0⟩
  have ath : ∀ m j, th (jx_su σ 2 f (σ 2 n)) m j = th σ m j := fun m j => ar 6 _ (by decide)
  obtain ⟨E2, X2, hE, hX, _, hWb, hHb⟩ := ws_clN hWa hHa hna 5 (by rw [a3]; decide)
  obtain ⟨c3, ct, cr⟩ := clN_ne (σ := jx_su σ 2 f (σ 2 n)) (n := n) 5 (by rw [a3]; decide) (by rw [a3]; decide)
  obtain ⟨c2, c3n⟩ := clN_23 (σ := jx_su σ 2 f (σ 2 n)) (n := n) 5
  have f3 := (hW.2.2.1 f hf he).1
  have pm : (fl (wS σ n ax) 5).Perm (fl (th σ n) 5) := srF_perm 5
  have hmm : ∀ a, a ∈ (wcl (wS σ n ax) (σ 2 n) 0 5 ++ (f, σ 2 n + 1) :: P) ↔ a ∈ wl (jx_su σ 2 f (σ 2 n)) n ((f, σ 2 n + 1) :: P) 5 := by
    intro a
    rw [wl_mem, List.mem_append, wcl_fl, List.mem_map]
    refine or_congr ⟨?_, ?_⟩ Iff.rfl
    · rintro ⟨x, hx, e⟩
      have hx := pm.mem_iff.mp hx
      unfold fl at hx
      obtain ⟨j, hj, e2⟩ := List.mem_map.mp hx
      rw [List.mem_range] at hj
      exact ⟨(j : Int), by rw [a3]; omega, by rw [a3]; omega, by rw [← e, ← e2, ath, a2n]⟩
    · rintro ⟨j, j0, j1, e⟩
      rw [a3] at j0 j1
      refine ⟨th σ n j, pm.mem_iff.mpr ?_, by rw [e, ath, a2n]⟩
      unfold fl
      exact List.mem_map.mpr ⟨j.toNat, List.mem_range.mpr (by omega), by rw [Int.toNat_of_nonneg (by omega)]⟩
  have hlen : ((wcl (wS σ n ax) (σ 2 n) 0 5 ++ (f, σ 2 n + 1) :: P)).Nodup := by
    rw [List.nodup_append]
    refine ⟨?_, hWa.2.2.2.2.2.2.2.2.1, fun a ha b hb e => ?_⟩
    · rw [wcl_fl]
      have hk : (fl (th σ n) 5).Nodup := by
        have := hW.2.2.2.2.2.1 n hn
        unfold kids at this
        rw [h5] at this
        exact this
      exact List.pairwise_map.mpr (List.Pairwise.imp (fun hne e => hne (congrArg Prod.fst e)) (pm.symm.nodup hk))
    · subst e
      have h1 := (hmm a).mp (List.mem_append_left _ ha)
      rw [wcl_fl, List.mem_map] at ha
      obtain ⟨x, hx, e⟩ := ha
      have hx := pm.mem_iff.mp hx
      unfold fl at hx
      obtain ⟨j, hj, e2⟩ := List.mem_map.mp hx
      rw [List.mem_range] at hj
      have h6 := (hWa.2.2.2.2.1 n (th σ n (j : Int)) hna (by rw [← ath]; exact th_kids (by omega) (by rw [a3]; omega))).2.2
      rw [a2n] at h6
      exact h6 (by rw [e2, e]; exact hb)
  refine ⟨?_, ⟨X2, fun m hm => ?_, hHb⟩, ?_, ?_, fun j j0 j1 => by omega, fun j j0 j1 => by omega, fun m a b => ?_, fun m j a b j0 j1 => ?_, fun m => ?_, fun q i h1 h2 h3 h4 h5 h6 => ?_⟩
  · refine ws_E (ws_perm hWb hmm hlen) (fun m hm => Or.inl ?_)
    rcases hE m hm with z | z
    · rw [z]; exact List.mem_cons_self
    · rw [List.mem_singleton] at z
      rw [z]; exact List.mem_cons_of_mem _ List.mem_cons_self
  · rcases hX m hm with z | z
    · exact Or.inl z
    · rw [List.mem_singleton] at z
      exact Or.inr z
  · rw [c3n, a3, show min 0 cut = 0 by omega]; rfl
  · rw [c3 f (fun e => hnf e.symm), ar _ _ (by decide), f3]; omega
  · rw [c3 m a, ar _ _ (by decide)]
  · rw [ct m j a j0 j1, ath]
  · rw [c2, a2]
  · rw [cr q i h6 h3 h1 h5, ar _ _ h2]
