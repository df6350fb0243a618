/-! ===== the pure part: which hulls are right ===== -/
/-- the hulls are right, but for the nodes of X -/
def Hs (σ : jx_St) (X : List Int) : Prop := (∀ m, nd m → vbo (σ 4 m)) ∧ (∀ m, lvn σ m → m ∉ X → loc σ m)
theorem loc_same {σ τ : jx_St} {m : Int} (h2 : τ 2 m = σ 2 m) (h3 : τ 3 m = σ 3 m) (h4 : τ 4 m = σ 4 m) (h0 : 0 ≤ σ 3 m) (hx : ∀ k, 0 ≤ k → k < σ 3 m → th τ m k = th σ m k ∧ hv τ (th σ m k) (σ 2 m) = hv σ (th σ m k) (σ 2 m)) (h : loc σ m) : loc τ m := by
  unfold loc at h ⊢
  rw [h4, h3, h]
  exact (rh_same h2 _ (fun k k0 k1 => hx k k0 (by omega))).symm
theorem hv_same {σ τ : jx_St} {x l : Int} (h0 : τ 0 x = σ 0 x) (h4 : τ 4 x = σ 4 x) : hv τ x l = hv σ x l := by unfold hv; rw [h0, h4]
theorem Hs.sub {σ : jx_St} {X Y : List Int} (h : Hs σ X) (hs : ∀ m ∈ X, m ∈ Y ∨ ¬ lvn σ m) : Hs σ Y := ⟨h.1, fun m a b => h.2 m a (fun c => (hs m c).elim (fun d => b d) (fun d => d a))⟩
theorem hs_congr {σ τ : jx_St} {X : List Int} (h : Hs σ X) (e0 : τ 0 = σ 0) (e2 : τ 2 = σ 2) (e3 : τ 3 = σ 3) (e4 : τ 4 = σ 4) (e6 : τ 6 = σ 6) (hS : ∀ m, lvn σ m → 0 ≤ σ 3 m) : Hs τ X := by
  refine ⟨by rw [e4]; exact h.1, fun m a b => ?_⟩
  have a' : lvn σ m := by unfold lvn at a ⊢; rw [e2] at a; exact a
  exact loc_same (by rw [e2]) (by rw [e3]) (by rw [e4]) (hS m a') (fun k _ _ => ⟨by unfold th; rw [e6], hv_same (by rw [e0]) (by rw [e4])⟩) (h.2 m a' b)
theorem hs_ad {σ : jx_St} {P : List (Int × Int)} {E X : List Int} {n p x : Int} (hW : Ws σ P E) (h : Hs σ X) (hn : lvn σ n) (h4 : σ 3 n ≤ 4) (hp : 0 ≤ p ∧ p ≤ σ 3 n) : Hs (adF σ n p x) (n :: X) := by
  have hS := hW.sh
  have e4 : ∀ i, adF σ n p x 4 i = σ 4 i := fun i => by simp only [adF]; rw [if_neg (by decide), if_neg (by decide), if_neg (by split <;> decide)]
  have e0 : ∀ i, adF σ n p x 0 i = σ 0 i := fun i => by simp only [adF]; rw [if_neg (by decide), if_neg (by decide), if_neg (by split <;> decide)]
  have e2 : ∀ i, adF σ n p x 2 i = σ 2 i := fun i => by simp only [adF]; rw [if_neg (by decide), if_neg (by decide), if_neg (by split <;> decide)]
  refine ⟨fun m hm => by rw [e4]; exact h.1 m hm, fun m a b => ?_⟩
  have a' : lvn σ m := by unfold lvn at a ⊢; rw [e2] at a; exact a
  have hne : m ≠ n := fun e => b (by rw [e]; exact List.mem_cons_self)
  have s := hS.1 m a'
  exact loc_same (e2 m) (by simp [adF, hne]) (e4 m) s.1 (fun k k0 k1 => ⟨th_ad_ne hne k0 (by omega) h4 hp, hv_same (e0 _) (e4 _)⟩) (h.2 m a' (fun c => b (List.mem_cons_of_mem _ c)))
theorem hs_rm {σ : jx_St} {P : List (Int × Int)} {E X : List Int} {n p : Int} (hW : Ws σ P E) (h : Hs σ X) (hn : lvn σ n) (hp : 0 ≤ p ∧ p < σ 3 n) : Hs (rmF σ n p) (n :: X) := by
  have hS := hW.sh
  have e4 : ∀ i, rmF σ n p 4 i = σ 4 i := fun i => by simp only [rmF]; rw [if_neg (by decide), if_neg (by decide), if_neg (by split <;> decide)]
  have e0 : ∀ i, rmF σ n p 0 i = σ 0 i := fun i => by simp only [rmF]; rw [if_neg (by decide), if_neg (by decide), if_neg (by split <;> decide)]
  have e2 : ∀ i, rmF σ n p 2 i = σ 2 i := fun i => by simp only [rmF]; rw [if_neg (by decide), if_neg (by decide), if_neg (by split <;> decide)]
  refine ⟨fun m hm => by rw [e4]; exact h.1 m hm, fun m a b => ?_⟩
  have a' : lvn σ m := by unfold lvn at a ⊢; rw [e2] at a; exact a
  have hne : m ≠ n := fun e => b (by rw [e]; exact List.mem_cons_self)
  have s := hS.1 m a'
  exact loc_same (e2 m) (by simp [rmF, hne]) (e4 m) s.1 (fun k k0 k1 => ⟨th_rm_ne hne k0 (by omega) (hS.1 n hn).2.1 hp, hv_same (e0 _) (e4 _)⟩) (h.2 m a' (fun c => b (List.mem_cons_of_mem _ c)))
theorem hs_box {σ : jx_St} {P : List (Int × Int)} {E X : List Int} {b v : Int} (hW : Ws σ P E) (h : Hs σ X) (hb : ∀ m, lvn σ m → σ 2 m = 0 → b ∉ kids σ m) : Hs (jx_su σ 0 b v) X := by
  have hS := hW.sh
  have en : ∀ k i, k ≠ 0 → jx_su σ 0 b v k i = σ k i := fun k i hk => jx_su_ne hk
  refine ⟨fun m hm => by rw [en _ _ (by decide)]; exact h.1 m hm, fun m a c => ?_⟩
  have a' : lvn σ m := by unfold lvn at a ⊢; rw [en _ _ (by decide)] at a; exact a
  refine loc_same (en _ _ (by decide)) (en _ _ (by decide)) (en _ _ (by decide)) (hS.1 m a').1 (fun k k0 k1 => ⟨en _ _ (by decide), ?_⟩) (h.2 m a' c)
  unfold hv
  split
  · next e =>
    rw [jx_su_same, if_neg]
    intro q
    exact hb m a' e (by rw [← q]; exact th_kids k0 k1)
  · exact en _ _ (by decide)
theorem hs_new {σ : jx_St} {P : List (Int × Int)} {E X : List Int} {f l : Int} (hW : Ws σ P E) (h : Hs σ X) : Hs (jx_su σ 2 f l) (f :: X) := by
  have hS := hW.sh
  have en : ∀ k i, k ≠ 2 → jx_su σ 2 f l k i = σ k i := fun k i hk => jx_su_ne hk
  refine ⟨fun m hm => by rw [en _ _ (by decide)]; exact h.1 m hm, fun m a c => ?_⟩
  have hne : m ≠ f := fun e => c (by rw [e]; exact List.mem_cons_self)
  have e2 : jx_su σ 2 f l 2 m = σ 2 m := by rw [jx_su_same, if_neg hne]
  have a' : lvn σ m := by unfold lvn at a ⊢; rw [e2] at a; exact a
  exact loc_same e2 (en _ _ (by decide)) (en _ _ (by decide)) (hS.1 m a').1 (fun k k0 k1 => ⟨en _ _ (by decide), hv_same (en _ _ (by decide)) (en _ _ (by decide))⟩) (h.2 m a' (fun q => c (List.mem_cons_of_mem _ q)))
theorem hs_root {σ : jx_St} {P : List (Int × Int)} {E X : List Int} {r : Int} (hW : Ws σ P E) (h : Hs σ X) : Hs (jx_su σ 7 0 r) X :=
  hs_congr h (by funext i; exact jx_su_ne (by decide)) (by funext i; exact jx_su_ne (by decide)) (by funext i; exact jx_su_ne (by decide)) (by funext i; exact jx_su_ne (by decide)) (by funext i; exact jx_su_ne (by decide)) (fun m hm => (hW.sh.1 m hm).1)
theorem hs_drop {σ : jx_St} {X : List Int} {x : Int} (hS : ∀ m, lvn σ m → 0 ≤ σ 3 m) (h : Hs σ X) (hx : ∀ m, lvn σ m → 0 < σ 2 m → m ≠ x → x ∉ kids σ m) : Hs (dpF σ x) X := by
  have en : ∀ k i, k ≠ 2 → k ≠ 4 → k ≠ 5 → dpF σ x k i = σ k i := fun k i a b c => dpF_n a b c
  have e4 : ∀ i, dpF σ x 4 i = if i = x then -1 else σ 4 i := fun i => by
    unfold dpF
    rw [jx_su_ne (by decide)]
    by_cases z : i = x
    · rw [if_pos z, z]; exact jx_su_eq
    · rw [if_neg z, jx_su_same, if_neg z, jx_su_ne (by decide)]
  refine ⟨fun m hm => ?_, fun m a c => ?_⟩
  · rw [e4]
    split
    · exact Or.inl rfl
    · exact h.1 m hm
  · have hne : m ≠ x := fun e => by
      have := a.2
      rw [dpF_2, if_pos e] at this
      omega
    have e2 : dpF σ x 2 m = σ 2 m := by rw [dpF_2, if_neg hne]
    have a' : lvn σ m := by unfold lvn at a ⊢; rw [e2] at a; exact a
    refine loc_same e2 (en _ _ (by decide) (by decide) (by decide)) (by rw [e4, if_neg hne]) (hS m a') (fun k k0 k1 => ⟨en _ _ (by decide) (by decide) (by decide), ?_⟩) (h.2 m a' c)
    unfold hv
    split
    · exact en _ _ (by decide) (by decide) (by decide)
    · next e =>
      rw [e4, if_neg]
      intro q
      exact hx m a' (by have := a'.2; omega) hne (by rw [← q]; exact th_kids k0 k1)
theorem p_refresh2 {Q : jx_St → Prop} {σ : jx_St} {P : List (Int × Int)} {E X : List Int} {n t : Int} (hW : Ws σ P E) (hH : Hs σ X) (hn : lvn σ n) (hX : ∀ m ∈ X, m = n ∨ m = σ 5 n ∨ m = t) (h : ∀ τ : jx_St, (∀ k, k ≠ 4 → τ k = σ k) → Ws τ P E → Hs τ [t] → Q τ) : wp_T_refresh Q σ n := by
  refine p_refresh (t := t) hW.sh hH.1 hn (fun m a b c d => hH.2 m a (fun q => ?_)) (fun τ a b c => h τ a ?_ ⟨b, fun m x y => ?_⟩)
  · rcases hX m q with z | z | z
    · exact b z
    · exact c z
    · exact d z
  · exact ws_congr hW (a 0 (by decide)) (a 1 (by decide)) (a 2 (by decide)) (a 3 (by decide)) (a 5 (by decide)) (a 6 (by decide)) (a 7 (by decide))
  · exact c m (by unfold lvn at x ⊢; rw [a 2 (by decide)] at x; exact x) (fun q => y (by rw [q]; exact List.mem_cons_self))
/-- a row that is emptied from its end, so many times -/
def clN (σ : jx_St) (n : Int) : Nat → jx_St
  | 0 => σ
  | k + 1 => rmF (clN σ n k) n (σ 3 n - (k : Int) - 1)
theorem clN_23 {σ : jx_St} {n : Int} (k : Nat) : (∀ i, clN σ n k 2 i = σ 2 i) ∧ clN σ n k 3 n = σ 3 n - (k : Int) := by
  induction k with
  | zero => exact ⟨fun _ => rfl, by show σ 3 n = σ 3 n - ((0 : Nat) : Int); omega⟩
  | succ k ih =>
    refine ⟨fun i => ?_, ?_⟩
    · simp only [clN, rmF]
      rw [if_neg (by decide), if_neg (by decide), if_neg (by split <;> decide)]
      exact ih.1 i
    · simp only [clN, rmF]
      rw [if_neg (by decide), if_pos trivial, if_pos trivial, ih.2]
      omega
theorem clN_th {σ : jx_St} {n : Int} (k : Nat) : ∀ j, 0 ≤ j → j < σ 3 n - (k : Int) → th (clN σ n k) n j = th σ n j := by
  induction k with
  | zero => intro j _ _; rfl
  | succ k ih =>
    intro j j0 j1
    simp only [clN]
    rw [th_rm (by rw [(clN_23 k).2]; omega), if_neg (by omega)]
    exact ih j j0 (by omega)
theorem p_clearRow2 {Q : jx_St → Prop} {σ : jx_St} {n : Int} (hn : nd n) (hs : 0 ≤ σ 3 n ∧ σ 3 n ≤ 5) (hl : jx_R (σ 2 n)) (hx : ∀ k, 0 ≤ k → k < σ 3 n → tv (th σ n k) (σ 2 n)) (h : Q (clN σ n (σ 3 n).toNat)) : wp_T_clearRow Q σ n := by
  refine p_sizeOf hn ?_
  refine jx_loop (fun v => -1 ≤ v.2 ∧ v.2 < σ 3 n ∧ v.1 = clN σ n (σ 3 n - 1 - v.2).toNat) (fun v => (v.2 + 1).toNat) (fun B v hI hB => ?_) ⟨by omega, by omega, by show σ = clN σ n (σ 3 n - 1 - (σ 3 n - 1)).toNat; rw [show (σ 3 n - 1 - (σ 3 n - 1)).toNat = 0 by omega]; rfl⟩
  obtain ⟨τ, j⟩ := v
  obtain ⟨a1, a2, a3⟩ := hI
  dsimp only at a1 a2 a3 ⊢
  subst a3
  obtain ⟨e2, e3⟩ := clN_23 (σ := σ) (n := n) (σ 3 n - 1 - j).toNat
  refine ⟨jx_inR (by omega) (by omega), fun q => ?_, fun q => ?_⟩
  · have ej : j = -1 := by omega
    subst ej
    rw [show σ 3 n - 1 - -1 = σ 3 n by omega]
    exact h
  · have et := clN_th (σ := σ) (n := n) (σ 3 n - 1 - j).toNat j (by omega) (by omega)
    refine p_remove hn (by rw [e3]; omega) ⟨by omega, by rw [e3]; omega⟩ (by rw [e2]; exact hl) (by rw [e2, et]; exact hx j (by omega) (by omega)) ?_
    refine hB _ ⟨by show -1 ≤ j + -1; omega, by show j + -1 < σ 3 n; omega, ?_⟩ (by show (j + -1 + 1).toNat < (j + 1).toNat; omega)
    dsimp only
    rw [show (σ 3 n - 1 - (j + -1)).toNat = (σ 3 n - 1 - j).toNat + 1 by omega]
    simp only [clN]
    congr 1
    omega
/-- the things that wait when a row is emptied -/
def wl (σ : jx_St) (n : Int) (P : List (Int × Int)) : Nat → List (Int × Int)
  | 0 => P
  | k + 1 => (th σ n (σ 3 n - (k : Int) - 1), σ 2 n) :: wl σ n P k
theorem ws_clN {σ : jx_St} {P : List (Int × Int)} {E X : List Int} {n : Int} (hW : Ws σ P E) (hH : Hs σ X) (hn : lvn σ n) (k : Nat) : (k : Int) ≤ σ 3 n → ∃ E2 X2, (∀ m, m ∈ E2 → m = n ∨ m ∈ E) ∧ (∀ m, m ∈ X2 → m = n ∨ m ∈ X) ∧ (0 < k → n ∈ E2) ∧ Ws (clN σ n k) (wl σ n P k) E2 ∧ Hs (clN σ n k) X2 := by
  induction k with
  | zero => intro _; exact ⟨E, X, fun m h => Or.inr h, fun m h => Or.inr h, fun h => absurd h (by decide), hW, hH⟩
  | succ k ih =>
    intro hk
    obtain ⟨E2, X2, a, b, c, d, e⟩ := ih (by omega)
    obtain ⟨e2, e3⟩ := clN_23 (σ := σ) (n := n) k
    have hn' : lvn (clN σ n k) n := by unfold lvn; rw [e2]; exact hn
    have hp : 0 ≤ σ 3 n - (k : Int) - 1 ∧ σ 3 n - (k : Int) - 1 < clN σ n k 3 n := by rw [e3]; omega
    have et := clN_th (σ := σ) (n := n) k (σ 3 n - (k : Int) - 1) hp.1 (by omega)
    refine ⟨n :: E2, n :: X2, fun m h => ?_, fun m h => ?_, fun _ => List.mem_cons_self, ?_, hs_rm d e hn' hp⟩
    · rcases List.mem_cons.mp h with z | z
      · exact Or.inl z
      · exact a m z
    · rcases List.mem_cons.mp h with z | z
      · exact Or.inl z
      · exact b m z
    · have := ws_detach d hn' hp
      rw [et, e2] at this
      exact this
