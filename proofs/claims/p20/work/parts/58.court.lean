/-! ===== the pure part: a court ===== -/
def smL (f : Int → Int) : List Int → Int
  | [] => 0
  | x :: xs => f x + smL f xs
theorem smL_app (f : Int → Int) (a b : List Int) : smL f (a ++ b) = smL f a + smL f b := by
  induction a with
  | nil => show smL f b = 0 + smL f b; omega
  | cons x xs ih => show f x + smL f (xs ++ b) = f x + smL f xs + smL f b; rw [ih]; omega
theorem smL_flat (f : Int → Int) (g : Int → List Int) (a : List Int) : smL f (a.flatMap g) = smL (fun x => smL f (g x)) a := by
  induction a with
  | nil => rfl
  | cons x xs ih => rw [List.flatMap_cons, smL_app, ih]; rfl
theorem smL_add (f g : Int → Int) (a : List Int) : smL (fun x => f x + g x) a = smL f a + smL g a := by
  induction a with
  | nil => rfl
  | cons x xs ih => show f x + g x + smL (fun x => f x + g x) xs = f x + smL f xs + (g x + smL g xs); rw [ih]; omega
theorem smL_congr {f g : Int → Int} {a : List Int} (h : ∀ x ∈ a, f x = g x) : smL f a = smL g a := by
  induction a with
  | nil => rfl
  | cons x xs ih => show f x + smL f xs = g x + smL g xs; rw [h x List.mem_cons_self, ih (fun y hy => h y (List.mem_cons_of_mem _ hy))]
/-- B tells the boxes below each node -/
def Bel (σ : jx_St) (B : Int → Int) : Prop := ∀ n, lvn σ n → B n = if σ 2 n = 0 then σ 3 n else smL B (kids σ n)
theorem bel_sum {σ ψ : jx_St} {B : Int → Int} {top : Int} {S : List Int} (hB : Bel σ B) (h : Sn σ ψ top S) : smL (fun x => if σ 2 x = 0 then σ 3 x else 0) S = B top := by
  obtain ⟨_, _, _, s4, _, s6⟩ := h
  have h1 : smL B S = B top + smL (fun x => smL B (ch σ x)) S := by
    have e : smL B S = smL B (top :: S.flatMap (ch σ)) := by rw [← s4]
    rw [e, ← smL_flat]
    rfl
  have h2 : smL B S = smL (fun x => (if σ 2 x = 0 then σ 3 x else 0) + smL B (ch σ x)) S := smL_congr (fun x hx => by
    obtain ⟨hl, _⟩ := s6 x hx
    have := hl.2
    rw [hB x hl]
    unfold ch
    by_cases z : σ 2 x = 0
    · rw [if_pos z, if_pos z, if_neg (by omega)]
      show σ 3 x = σ 3 x + 0
      omega
    · rw [if_neg z, if_neg z, if_pos (by omega)]
      omega)
  rw [smL_add] at h2
  omega
theorem p_levelSeen {Q : Int → Prop} {ψ σ : jx_St} {i : Int} (h0 : 0 ≤ i) (h1 : i < 32) (hn : nd (ψ 1 i)) (h : Q (σ 2 (ψ 1 i))) : wp_S_levelSeen Q ψ σ i := by
  refine ⟨jx_inR (by omega) (by omega), ?_⟩
  rw [jx_at_in h0 h1]
  exact p_levelOf hn h
theorem p_nodeSeen {Q : Int → Prop} {ψ : jx_St} {i : Int} (h0 : 0 ≤ i) (h1 : i < 32) (h : Q (ψ 1 i)) : wp_S_nodeSeen Q ψ i := by
  refine ⟨jx_inR (by omega) (by omega), ?_⟩
  rw [jx_at_in h0 h1]
  exact h
theorem p_boxesBelow {Q : Int → jx_St → Prop} {ψ σ : jx_St} {P : List (Int × Int)} {E : List Int} {B : Int → Int} {top : Int} (hW : Ws σ P E) (hB : Bel σ B) (ht : lvn σ top) (h : ∀ ψ', Q (B top) ψ') : wp_S_boxesBelow Q ψ σ top := by
  refine p_lookFrom hW ht (fun ψ' S hs => ?_)
  have bs := bel_sum hB hs
  obtain ⟨s1, s2, s3, s4, s5, s6⟩ := hs
  have ec : (((ψ' 2 0).toNat : Nat) : Int) = ψ' 2 0 := Int.toNat_of_nonneg s1
  refine jx_loop (fun v => 0 ≤ v.2 ∧ v.2 ≤ ψ' 2 0 ∧ v.1 = smL (fun x => if σ 2 x = 0 then σ 3 x else 0) (fl (ψ' 1) v.2.toNat)) (fun v => (ψ' 2 0 - v.2).toNat) (fun B1 v hI hB1 => ?_) ⟨Int.le_refl _, s1, rfl⟩
  obtain ⟨x, i⟩ := v
  obtain ⟨a1, a2, a3⟩ := hI
  dsimp only at a1 a2 a3 ⊢
  refine ⟨jx_inR (by omega) (by omega), jx_inR (by omega) (by omega), fun q => ?_, fun q => ?_⟩
  · have hx := (s6 (ψ' 1 i) (by rw [s3]; exact mem_fl.mpr ⟨i, a1, by omega, rfl⟩)).1
    have ei : ((i.toNat : Nat) : Int) = i := Int.toNat_of_nonneg a1
    have go : ∀ y, y = x + (if σ 2 (ψ' 1 i) = 0 then σ 3 (ψ' 1 i) else 0) → B1 (y, i + 1) := fun y hy => by
      refine hB1 _ ⟨by show 0 ≤ i + 1; omega, by show i + 1 ≤ _; omega, ?_⟩ (by show (ψ' 2 0 - (i + 1)).toNat < (ψ' 2 0 - i).toNat; omega)
      dsimp only
      rw [show (i + 1).toNat = i.toNat + 1 by omega, fl_succ, smL_app, ← a3, ei, hy]
      show _ = x + ((if σ 2 (ψ' 1 i) = 0 then σ 3 (ψ' 1 i) else 0) + 0)
      omega
    refine p_levelSeen a1 (by omega) hx.1 ⟨hW.R2 hx, fun z => p_nodeSeen a1 (by omega) (p_sizeOf hx.1 (go _ (by rw [if_pos z]))), fun z => go _ (by rw [if_neg z]; omega)⟩
  · have e : i = ψ' 2 0 := by omega
    rw [a3, e, ← s3, bs]
    exact h ψ'
theorem p_noteCourt {Q : jx_St → jx_St → Prop} {ρ σ : jx_St} {l b : Int} (h0 : 0 ≤ ρ 8 0) (h1 : ρ 8 0 < 64) (h : ∀ ρ' : jx_St, (∀ k, k ≠ 6 → k ≠ 7 → k ≠ 8 → ρ' k = ρ k) → ρ' 8 0 = ρ 8 0 + 1 → (∀ j, ρ' 6 j = if j = ρ 8 0 then l else ρ 6 j) → (∀ j, ρ' 7 j = if j = ρ 8 0 then b else ρ 7 j) → Q ρ' (jx_su σ 8 0 (σ 8 0 + 1))) : wp_C_noteCourt Q ρ σ l b := by
  refine ⟨jx_inR (by omega) (by omega), fun _ => ⟨jx_inR (by omega) (by omega), ?_⟩, fun q => absurd h1 q⟩
  rw [jx_se_in h0 h1]
  have e8 : jx_su ρ 6 (ρ 8 0) l 8 0 = ρ 8 0 := jx_su_ne (by decide)
  rw [e8]
  refine ⟨jx_inR (by omega) (by omega), ?_⟩
  rw [jx_se_in h0 h1]
  refine h _ (fun k k6 k7 k8 => ?_) ?_ (fun j => ?_) (fun j => ?_)
  · funext i; rw [jx_su_ne k8, jx_su_ne k7, jx_su_ne k6]
  · rw [jx_su_eq, jx_su_ne (by decide), e8]
  · rw [jx_su_ne (by decide), jx_su_ne (by decide), jx_su_same]
  · rw [jx_su_ne (by decide), jx_su_same, jx_su_ne (by decide)]
def cfa (σ : jx_St) (n : Int) : Int := (frF σ n (-1) 5).1
def cne (σ : jx_St) (n : Int) : Int := (frF σ n (cfa σ n) 5).1
theorem cfn (σ : jx_St) (n : Int) : 0 ≤ cfa σ n ∧ cfa σ n < 5 ∧ 0 ≤ cne σ n ∧ cne σ n < 5 ∧ cfa σ n ≠ cne σ n := by
  have h1 := frF_bd (σ := σ) (n := n) (but := -1) 5
  have h2 := frF_bd (σ := σ) (n := n) (but := cfa σ n) 5
  have a := h1.2.2.2.2.2.2 0 (by decide) (by decide) (by decide)
  have a1 : 0 ≤ cfa σ n := a.1
  have a2 : cfa σ n < 5 := h1.2.1
  have b : ∃ j : Int, 0 ≤ j ∧ j < 5 ∧ j ≠ cfa σ n := by
    by_cases z : cfa σ n = 0
    · exact ⟨1, by decide, by decide, by omega⟩
    · exact ⟨0, by decide, by decide, fun e => z e.symm⟩
  obtain ⟨j, j0, j1, j2⟩ := b
  have c := h2.2.2.2.2.2.2 j j0 j1 j2
  have c1 : 0 ≤ cne σ n := c.1
  exact ⟨a1, a2, c1, h2.2.1, fun e => (h2.2.2.2.2.2.1 c1).1 e.symm⟩
/-- what a court leaves of the tree -/
def coS (σ : jx_St) (n : Int) : jx_St := rmF (rmF (jx_su σ 8 0 (σ 8 0 + 1)) n (max (cfa σ n) (cne σ n))) n (min (cfa σ n) (cne σ n))
theorem p_holdCourt {Q : Int → jx_St → jx_St → jx_St → Prop} {ρ ψ σ : jx_St} {P : List (Int × Int)} {B : Int → Int} {n : Int} (hW : Ws σ P []) (hH : Hs σ []) (hB : Bel σ B) (hn : lvn σ n) (h5 : σ 3 n = 5) (hw : 0 ≤ ρ 4 0 ∧ ρ 4 0 < 60) (hc : 0 ≤ ρ 8 0 ∧ ρ 8 0 < 64)
    (h : ∀ ρ' ψ' τ, (∀ k, k ≠ 2 → k ≠ 3 → k ≠ 4 → k ≠ 5 → k ≠ 6 → k ≠ 7 → k ≠ 8 → ρ' k = ρ k) → ρ' 5 0 = jx_or (ρ 5 0) (jx_shl 1 (σ 2 n)) → ρ' 8 0 = ρ 8 0 + 1 → (∀ j, ρ' 6 j = if j = ρ 8 0 then σ 2 n else ρ 6 j) → (∀ j, ρ' 7 j = if j = ρ 8 0 then (if σ 2 n = 0 then 2 else B (th σ n (cfa σ n)) + B (th σ n (cne σ n))) else ρ 7 j) → ρ' 4 0 = ρ 4 0 + 2 → (∀ j, ρ' 2 j = if j = ρ 4 0 + 1 then th σ n (cne σ n) else if j = ρ 4 0 then th σ n (cfa σ n) else ρ 2 j) → (∀ j, ρ' 3 j = if j = ρ 4 0 + 1 then σ 2 n else if j = ρ 4 0 then σ 2 n else ρ 3 j) →
      (∀ k, k ≠ 4 → τ k = coS σ n k) → Ws τ ((th σ n (cne σ n), σ 2 n) :: (th σ n (cfa σ n), σ 2 n) :: P) [] → Hs τ [] → Q n ρ' ψ' τ) : wp_C_holdCourt Q ρ ψ σ n := by
  have hS := hW.sh
  have hx : ∀ k, 0 ≤ k → k < σ 3 n → tv (th σ n k) (σ 2 n) := fun k a b => Sh_tv hS hn a b
  obtain ⟨f0, f1, g0, g1, fg⟩ := cfn σ n
  have ef : (frF σ n (-1) (σ 3 n).toNat).1 = cfa σ n := by rw [h5]; rfl
  have eg : (frF σ n (cfa σ n) (σ 3 n).toNat).1 = cne σ n := by rw [h5]; rfl
  refine p_levelOf hn.1 (p_farthest hn.1 (hW.R2 hn) (jx_inR (by decide) (by decide)) ⟨by omega, by omega⟩ hx ?_)
  rw [ef]
  refine p_farthest hn.1 (hW.R2 hn) (jx_inR (by omega) (by omega)) ⟨by omega, by omega⟩ hx ?_
  rw [eg]
  refine p_thingAt hn.1 ⟨f0, f1⟩ (p_thingAt hn.1 ⟨g0, g1⟩ ⟨hW.R2 hn, ?_⟩)
  have main : ∀ (ψ' : jx_St) (b : Int), b = (if σ 2 n = 0 then 2 else B (th σ n (cfa σ n)) + B (th σ n (cne σ n))) → wp_C_holdCourt_88 Q n (jx_su ρ 5 0 (jx_or (ρ 5 0) (jx_shl 1 (σ 2 n)))) ψ' σ (σ 2 n) (cfa σ n) (cne σ n) (th σ n (cfa σ n)) (th σ n (cne σ n)) (σ 2 n) b := by
    intro ψ' b hb
    refine p_noteCourt (by rw [jx_su_ne (by decide)]; exact hc.1) (by rw [jx_su_ne (by decide)]; exact hc.2) (fun ρ1 n1 n2 n3 n4 => ⟨jx_inR (by omega) (by omega), jx_inR (by omega) (by omega), ?_⟩)
    have sr : ∀ q i, q ≠ 8 → jx_su σ 8 0 (σ 8 0 + 1) q i = σ q i := fun q i hq => jx_su_ne hq
    have sth : ∀ k, th (jx_su σ 8 0 (σ 8 0 + 1)) n k = th σ n k := fun k => sr 6 _ (by decide)
    have hW1 : Ws (jx_su σ 8 0 (σ 8 0 + 1)) P [] := ws_congr hW (by funext i; exact sr _ i (by decide)) (by funext i; exact sr _ i (by decide)) (by funext i; exact sr _ i (by decide)) (by funext i; exact sr _ i (by decide)) (by funext i; exact sr _ i (by decide)) (by funext i; exact sr _ i (by decide)) (by funext i; exact sr _ i (by decide))
    have hH1 : Hs (jx_su σ 8 0 (σ 8 0 + 1)) [] := hs_congr hH (by funext i; exact sr _ i (by decide)) (by funext i; exact sr _ i (by decide)) (by funext i; exact sr _ i (by decide)) (by funext i; exact sr _ i (by decide)) (by funext i; exact sr _ i (by decide)) (fun m hm => (hS.1 m hm).1)
    have hn1 : lvn (jx_su σ 8 0 (σ 8 0 + 1)) n := ⟨hn.1, by rw [sr 2 _ (by decide)]; exact hn.2⟩
    have mx : 0 ≤ max (cfa σ n) (cne σ n) ∧ max (cfa σ n) (cne σ n) < jx_su σ 8 0 (σ 8 0 + 1) 3 n := by rw [sr 3 _ (by decide), h5]; omega
    have mm : 0 ≤ min (cfa σ n) (cne σ n) ∧ min (cfa σ n) (cne σ n) < max (cfa σ n) (cne σ n) ∧ max (cfa σ n) (cne σ n) < 5 := by omega
    have l2 : jx_su σ 8 0 (σ 8 0 + 1) 2 n = σ 2 n := sr 2 _ (by decide)
    refine p_remove hn.1 (by rw [sr 3 _ (by decide), h5]; decide) mx (by rw [l2]; exact hW.R2 hn) (by rw [l2, sth]; exact hx _ mx.1 (by omega)) ⟨jx_inR (by omega) (by omega), jx_inR (by omega) (by omega), ?_⟩
    have hW2 := ws_detach hW1 hn1 mx
    have hH2 := hs_rm hW1 hH1 hn1 mx
    have r3 : ∀ m, rmF (jx_su σ 8 0 (σ 8 0 + 1)) n (max (cfa σ n) (cne σ n)) 3 m = if m = n then 4 else σ 3 m := fun m => by
      simp only [rmF]
      rw [if_neg (by decide), if_pos trivial, sr 3 _ (by decide), sr 3 _ (by decide), h5]
      rfl
    have r2 : ∀ m, rmF (jx_su σ 8 0 (σ 8 0 + 1)) n (max (cfa σ n) (cne σ n)) 2 m = σ 2 m := fun m => by rw [rmF_n (by decide) (by decide) (by decide) (by decide)]; exact sr 2 _ (by decide)
    have rt : th (rmF (jx_su σ 8 0 (σ 8 0 + 1)) n (max (cfa σ n) (cne σ n))) n (min (cfa σ n) (cne σ n)) = th σ n (min (cfa σ n) (cne σ n)) := by
      rw [th_rm (by rw [sr 3 _ (by decide), h5]; omega), if_neg (by omega), sth]
    have hn2 : lvn (rmF (jx_su σ 8 0 (σ 8 0 + 1)) n (max (cfa σ n) (cne σ n))) n := ⟨hn.1, by rw [r2]; exact hn.2⟩
    have mn : 0 ≤ min (cfa σ n) (cne σ n) ∧ min (cfa σ n) (cne σ n) < rmF (jx_su σ 8 0 (σ 8 0 + 1)) n (max (cfa σ n) (cne σ n)) 3 n := by rw [r3, if_pos rfl]; omega
    refine p_remove hn.1 (by rw [r3, if_pos rfl]; decide) mn (by rw [r2]; exact hW.R2 hn) (by rw [r2, rt]; exact hx _ mn.1 (by omega)) ?_
    have hW3 := ws_detach hW2 hn2 mn
    have hH3 := hs_rm hW2 hH2 hn2 mn
    rw [rt, r2, l2, sth] at hW3
    have s3 : ∀ m, coS σ n 3 m = if m = n then 3 else σ 3 m := fun m => by
      unfold coS
      generalize hu : rmF (jx_su σ 8 0 (σ 8 0 + 1)) n (max (cfa σ n) (cne σ n)) = υ at r3
      simp only [rmF]
      rw [if_neg (by decide), if_pos trivial, r3, if_pos rfl, r3]
      by_cases z : m = n
      · rw [if_pos z, if_pos z]; rfl
      · rw [if_neg z, if_neg z, if_neg z]
    have s2 : ∀ m, coS σ n 2 m = σ 2 m := fun m => by unfold coS; rw [rmF_n (by decide) (by decide) (by decide) (by decide)]; exact r2 m
    have hW4 : Ws (coS σ n) ((th σ n (cne σ n), σ 2 n) :: (th σ n (cfa σ n), σ 2 n) :: P) [] := by
      refine ws_E (ws_perm hW3 (fun a => ?_) ?_) (fun m hm => Or.inr (fun _ => ?_))
      · simp only [List.mem_cons]
        by_cases z : cfa σ n < cne σ n
        · rw [show min (cfa σ n) (cne σ n) = cfa σ n by omega, show max (cfa σ n) (cne σ n) = cne σ n by omega]
          exact ⟨fun q => by rcases q with q | q | q; exact Or.inr (Or.inl q); exact Or.inl q; exact Or.inr (Or.inr q), fun q => by rcases q with q | q | q; exact Or.inr (Or.inl q); exact Or.inl q; exact Or.inr (Or.inr q)⟩
        · rw [show min (cfa σ n) (cne σ n) = cne σ n by omega, show max (cfa σ n) (cne σ n) = cfa σ n by omega]
      · have nd := hW3.2.2.2.2.2.2.2.2.1
        by_cases z : cfa σ n < cne σ n
        · rw [show min (cfa σ n) (cne σ n) = cfa σ n by omega, show max (cfa σ n) (cne σ n) = cne σ n by omega] at nd
          exact (List.Perm.swap _ _ _).nodup nd
        · rw [show min (cfa σ n) (cne σ n) = cne σ n by omega, show max (cfa σ n) (cne σ n) = cfa σ n by omega] at nd
          exact nd
      · have : m = n := by
          rcases List.mem_cons.mp hm with z | z
          · exact z
          · rcases List.mem_cons.mp z with z | z
            · exact z
            · exact absurd z List.not_mem_nil
        have e : coS σ n 3 m = 3 := by rw [s3, if_pos (by assumption)]
        rw [e]
        exact ⟨fun _ => by decide, fun _ => by decide⟩
    have hn3 : lvn (coS σ n) n := ⟨hn.1, by rw [s2]; exact hn.2⟩
    refine p_refresh2 (t := -1) hW4 hH3 hn3 (fun m hm => Or.inl ?_) (fun τ t1 t2 t3 => ?_)
    · rcases List.mem_cons.mp hm with z | z
      · exact z
      · rcases List.mem_cons.mp z with z | z
        · exact z
        · exact absurd z List.not_mem_nil
    · have w1 : ρ1 4 0 = ρ 4 0 := by rw [n1 4 (by decide) (by decide) (by decide)]; exact jx_su_ne (by decide)
      have w2 : ρ1 2 = ρ 2 := by rw [n1 2 (by decide) (by decide) (by decide)]; funext i; exact jx_su_ne (by decide)
      have w3 : ρ1 3 = ρ 3 := by rw [n1 3 (by decide) (by decide) (by decide)]; funext i; exact jx_su_ne (by decide)
      refine p_await (by rw [w1]; exact hw.1) (by rw [w1]; omega) (fun ρ2 a1 a2 a3 a4 a5 => ?_)
      rw [w1] at a2 a3 a4 a5
      refine p_await (by rw [a2]; omega) (by rw [a2]; omega) (fun ρ3 b1 b2 b3 b4 b5 => ?_)
      rw [a2] at b2 b3 b4 b5
      refine h ρ3 ψ' τ (fun k k2 k3 k4 k5 k6 k7 k8 => ?_) ?_ ?_ (fun j => ?_) (fun j => ?_) ?_ (fun j => ?_) (fun j => ?_) t1 t2 (t3.sub (fun m hm => Or.inr (fun q => ?_)))
      · rw [b1 k k2 k3 k4, a1 k k2 k3 k4, n1 k k6 k7 k8]; funext i; exact jx_su_ne k5
      · rw [b1 5 (by decide) (by decide) (by decide), a1 5 (by decide) (by decide) (by decide), n1 5 (by decide) (by decide) (by decide)]; exact jx_su_eq
      · rw [b1 8 (by decide) (by decide) (by decide), a1 8 (by decide) (by decide) (by decide), n2, jx_su_ne (by decide)]
      · rw [b1 6 (by decide) (by decide) (by decide), a1 6 (by decide) (by decide) (by decide), n3, jx_su_ne (by decide), jx_su_ne (by decide)]
      · rw [b1 7 (by decide) (by decide) (by decide), a1 7 (by decide) (by decide) (by decide), n4, jx_su_ne (by decide), jx_su_ne (by decide), hb]
      · rw [b2]; omega
      · by_cases z : j = ρ 4 0 + 1
        · rw [if_pos z, z, b3]
        · rw [if_neg z, (b5 j z).1]
          by_cases y : j = ρ 4 0
          · rw [if_pos y, y, a3]
          · rw [if_neg y, (a5 j y).1, w2]
      · by_cases z : j = ρ 4 0 + 1
        · rw [if_pos z, z, b4]
        · rw [if_neg z, (b5 j z).2]
          by_cases y : j = ρ 4 0
          · rw [if_pos y, y, a4]
          · rw [if_neg y, (a5 j y).2, w3]
      · have := q.1.1
        rw [List.mem_singleton] at hm
        omega
  refine ⟨fun z => main ψ 2 (by rw [if_pos z]), fun z => ?_⟩
  have hl : 0 < σ 2 n := by have := hn.2; omega
  exact p_boxesBelow hW hB (hW.kid hn hl (th_kids f0 (by omega))).1 (fun ψ1 => p_boxesBelow hW hB (hW.kid hn hl (th_kids g0 (by omega))).1 (fun ψ2 => main ψ2 _ (by rw [if_neg z])))
