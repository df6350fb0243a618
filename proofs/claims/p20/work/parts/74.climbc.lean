/-! ===== the pure part: what waits and which courts were made, on both sides; both sides hold a court ===== -/
def Cr (ρ μ : jx_St) : Prop := μ 17 0 = ρ 8 0 ∧ 0 ≤ ρ 8 0 ∧ ∀ j, 0 ≤ j → j < ρ 8 0 → μ 15 j = ρ 6 j ∧ μ 16 j = ρ 7 j
def WC (ρ μ : jx_St) : Prop := μ 14 0 = ρ 5 0 ∧ (0 ≤ ρ 5 0 ∧ ρ 5 0 < 16) ∧ μ 13 0 = ρ 4 0 ∧ 0 ≤ ρ 4 0 ∧ (∀ j, 0 ≤ j → j < ρ 4 0 → μ 11 j = ρ 2 j ∧ μ 12 j = ρ 3 j) ∧ Cr ρ μ
/-- what an insertion of the reference writes -/
def kmL : List Nat := [0, 7, 8, 9, 10, 11, 12, 13, 14, 15, 16, 17, 21, 22, 23]
def Km (μ μ' : jx_St) : Prop := (∀ z, z ∉ kmL → μ' z = μ z) ∧ μ' 0 3 = μ 0 3
theorem Km.rfl' (μ : jx_St) : Km μ μ := ⟨fun _ _ => rfl, rfl⟩
theorem Km.trans' {μ ν ξ : jx_St} (h : Km μ ν) (g : Km ν ξ) : Km μ ξ := ⟨fun z hz => (g.1 z hz).trans (h.1 z hz), g.2.trans h.2⟩
theorem km_ne {z : Nat} (h : z ∉ kmL) : z ≠ 0 ∧ z ≠ 7 ∧ z ≠ 8 ∧ z ≠ 9 ∧ z ≠ 10 ∧ z ≠ 11 ∧ z ≠ 12 ∧ z ≠ 13 ∧ z ≠ 14 ∧ z ≠ 15 ∧ z ≠ 16 ∧ z ≠ 17 ∧ z ≠ 21 ∧ z ≠ 22 ∧ z ≠ 23 := by
  simp only [kmL, List.mem_cons, List.not_mem_nil, or_false, not_or] at h
  exact h
/-- the courts so far of this insertion: their levels are below the root's, each level has one, at least two boxes were sent -/
def CQ (ρ σ : jx_St) : Prop := ∀ j, 0 ≤ j → j < ρ 8 0 → (0 ≤ ρ 6 j ∧ ρ 6 j < σ 2 (σ 7 0) ∧ ρ 6 j < 4) ∧ (2 ≤ ρ 7 j ∧ ρ 7 j ≤ 2000) ∧ bt (ρ 5 0) (ρ 6 j) ≠ 0 ∧ ∀ i, 0 ≤ i → i < j → ρ 6 i ≠ ρ 6 j
def Cq (ρ σ ρ' τ : jx_St) : Prop := τ 8 0 - ρ' 8 0 = σ 8 0 - ρ 8 0 ∧ (CQ ρ σ → CQ ρ' τ)
theorem Cq.rfl' (ρ σ : jx_St) : Cq ρ σ ρ σ := ⟨rfl, fun h => h⟩
theorem Cq.trans' {ρ σ ρ1 σ1 ρ2 σ2 : jx_St} (h : Cq ρ σ ρ1 σ1) (g : Cq ρ1 σ1 ρ2 σ2) : Cq ρ σ ρ2 σ2 := ⟨g.1.trans h.1, fun q => g.2 (h.2 q)⟩
theorem CQ.of {ρ σ ρ' τ : jx_St} (h : CQ ρ σ) (e8 : ρ' 8 0 = ρ 8 0) (e6 : ρ' 6 = ρ 6) (e7 : ρ' 7 = ρ 7) (e5 : ρ' 5 0 = ρ 5 0) (hl : σ 2 (σ 7 0) ≤ τ 2 (τ 7 0)) : CQ ρ' τ := fun j j0 j1 => by
  rw [e8] at j1
  obtain ⟨⟨a1, a2, a3⟩, a4, a5, a6⟩ := h j j0 j1
  rw [e6, e7, e5]
  exact ⟨⟨a1, by omega, a3⟩, a4, a5, a6⟩
set_option maxRecDepth 100000 in
theorem bt_fin2 : ∀ a : Fin 16, ∀ b : Fin 4, ∀ c : Fin 4, bt (jx_or ((a.val : Nat) : Int) (jx_shl 1 ((b.val : Nat) : Int))) ((b.val : Nat) : Int) ≠ 0 ∧ (bt ((a.val : Nat) : Int) ((c.val : Nat) : Int) ≠ 0 → bt (jx_or ((a.val : Nat) : Int) (jx_shl 1 ((b.val : Nat) : Int))) ((c.val : Nat) : Int) ≠ 0) := by decide +kernel
theorem bt_or2 {s l m : Int} (s0 : 0 ≤ s) (s1 : s < 16) (l0 : 0 ≤ l) (l1 : l < 4) (m0 : 0 ≤ m) (m1 : m < 4) : bt (jx_or s (jx_shl 1 l)) l ≠ 0 ∧ (bt s m ≠ 0 → bt (jx_or s (jx_shl 1 l)) m ≠ 0) := by
  have h := bt_fin2 ⟨s.toNat, by omega⟩ ⟨l.toNat, by omega⟩ ⟨m.toNat, by omega⟩
  simp only [Int.toNat_of_nonneg s0, Int.toNat_of_nonneg l0, Int.toNat_of_nonneg m0] at h
  exact h
theorem smL_ge {f : Int → Int} {l : List Int} (h : ∀ x ∈ l, 1 ≤ f x) : (l.length : Int) ≤ smL f l := by
  induction l with
  | nil => exact Int.le_refl _
  | cons x xs ih =>
    have h1 := h x List.mem_cons_self
    have h2 := ih (fun y hy => h y (List.mem_cons_of_mem _ hy))
    simp only [smL, List.length_cons]
    omega
theorem bel_pos {σ : jx_St} {P : List (Int × Int)} {B : Int → Int} (hW : Ws σ P []) (hB : Bel σ B) : ∀ (L : Nat) (n : Int), lvn σ n → σ 2 n = (L : Int) → 1 ≤ σ 3 n → 1 ≤ B n := by
  intro L
  induction L with
  | zero =>
    intro n hn hl h1
    rw [hB n hn, if_pos (by omega)]
    exact h1
  | succ L ih =>
    intro n hn hl h1
    rw [hB n hn, if_neg (by omega)]
    have h2 := smL_ge (f := B) (l := kids σ n) (fun x hx => by
      obtain ⟨a, b, c, d⟩ := hW.kid hn (by omega) hx
      have h3 := ((hW.2.2.2.1 _ a).2.2.resolve_left List.not_mem_nil).1 d
      exact ih x a (by omega) (by omega))
    rw [kids_len] at h2
    omega
theorem smL_upto {f : Int → Int} {M : Int} {l : List Int} (h : ∀ x ∈ l, f x ≤ M) : smL f l ≤ M * (l.length : Int) := by
  induction l with
  | nil => simp [smL]
  | cons x xs ih =>
    have h1 := h x List.mem_cons_self
    have h2 := ih (fun y hy => h y (List.mem_cons_of_mem _ hy))
    simp only [smL, List.length_cons]
    rw [show ((xs.length + 1 : Nat) : Int) = (xs.length : Int) + 1 by omega, Int.mul_add, Int.mul_one]
    omega
def pw5 : Nat → Int
  | 0 => 5
  | L + 1 => pw5 L * 5
theorem pw5_pos : ∀ L, 0 ≤ pw5 L := by
  intro L
  induction L with
  | zero => decide
  | succ L ih => simp only [pw5]; omega
theorem pw5_bd : ∀ L, L < 4 → pw5 L ≤ 625 := by decide
theorem bel_le {σ : jx_St} {P : List (Int × Int)} {B : Int → Int} (hW : Ws σ P []) (hB : Bel σ B) : ∀ (L : Nat) (n : Int), lvn σ n → σ 2 n = (L : Int) → B n ≤ pw5 L := by
  intro L
  induction L with
  | zero =>
    intro n hn hl
    have s5 := hW.sh.1 n hn
    rw [hB n hn, if_pos (by omega)]
    show σ 3 n ≤ 5
    exact s5.2.1
  | succ L ih =>
    intro n hn hl
    have s5 := hW.sh.1 n hn
    rw [hB n hn, if_neg (by omega)]
    have h2 := smL_upto (f := B) (M := pw5 L) (l := kids σ n) (fun x hx => by
      obtain ⟨a, b, c, d⟩ := hW.kid hn (by omega) hx
      exact ih x a (by omega))
    rw [kids_len] at h2
    have h3 : pw5 L * ((σ 3 n).toNat : Int) ≤ pw5 L * 5 := Int.mul_le_mul_of_nonneg_left (by have := s5.2.1; have := s5.1; omega) (pw5_pos L)
    simp only [pw5]
    omega
theorem lvl_lt {σ : jx_St} {P : List (Int × Int)} {n : Int} (hW : Ws σ P []) (hn : lvn σ n) (hr : n ≠ σ 7 0) (hP : (n, σ 2 n + 1) ∉ P) : σ 2 n < σ 2 (σ 7 0) := by
  have ha : alv σ n (σ 2 n + 1) := Or.inr ⟨by have := hn.2; omega, hn, by omega, hr⟩
  rcases hW.2.2.2.2.2.2.1 n _ ha with z | ⟨z1, z2, z3⟩
  · exact absurd z hP
  · have h1 := ((hW.2.1 _ z1.1).resolve_left (by have := z1.2; omega)).2
    omega
/-- what there is after a part of an insertion, seen from where it began -/
def Rs (ρ σ μ : jx_St) (P0 : List (Int × Int)) (ρ' τ μ' : jx_St) : Prop :=
  Ws τ (wtl ρ' (ρ' 4 0).toNat ++ P0) [] ∧ Hs τ [] ∧ Ag τ μ' ∧ Kp σ τ ∧ WC ρ' μ' ∧ ρ' 9 = ρ 9 ∧ ρ' 4 0 + 2 * unc (ρ' 5 0) ≤ ρ 4 0 + 2 * unc (ρ 5 0) ∧ ρ' 8 0 + unc (ρ' 5 0) ≤ ρ 8 0 + unc (ρ 5 0) ∧ (∀ a ∈ wtl ρ' (ρ' 4 0).toNat ++ P0, a.2 ≤ τ 2 (τ 7 0)) ∧ Km μ μ' ∧ Cq ρ σ ρ' τ
theorem wc_congr {ρ ρ' μ μ' : jx_St} (h : WC ρ μ) (hr : ∀ k, k ≠ 10 → k ≠ 11 → ρ' k = ρ k) (hm : ∀ z, z ≠ 0 → z ≠ 7 → z ≠ 8 → z ≠ 9 → z ≠ 10 → z ≠ 21 → z ≠ 22 → μ' z = μ z) : WC ρ' μ' := by
  unfold WC Cr at h ⊢
  rw [hr 5 (by decide) (by decide), hr 4 (by decide) (by decide), hr 2 (by decide) (by decide), hr 3 (by decide) (by decide), hr 8 (by decide) (by decide), hr 6 (by decide) (by decide), hr 7 (by decide) (by decide)]
  rw [hm 14 (by decide) (by decide) (by decide) (by decide) (by decide) (by decide) (by decide), hm 13 (by decide) (by decide) (by decide) (by decide) (by decide) (by decide) (by decide), hm 11 (by decide) (by decide) (by decide) (by decide) (by decide) (by decide) (by decide), hm 12 (by decide) (by decide) (by decide) (by decide) (by decide) (by decide) (by decide), hm 17 (by decide) (by decide) (by decide) (by decide) (by decide) (by decide) (by decide), hm 15 (by decide) (by decide) (by decide) (by decide) (by decide) (by decide) (by decide), hm 16 (by decide) (by decide) (by decide) (by decide) (by decide) (by decide) (by decide)]
  exact h
theorem Rs.stepA {ρ σ μ ρ1 σ1 μ1 ρ2 σ2 μ2 : jx_St} {P0 : List (Int × Int)} (h : Rs ρ σ μ P0 ρ1 σ1 μ1) (hr : ∀ k, k ≠ 10 → k ≠ 11 → ρ2 k = ρ1 k) (hW : Ws σ2 (wtl ρ1 (ρ1 4 0).toNat ++ P0) []) (hH : Hs σ2 []) (hA : Ag σ2 μ2) (hK : Kp σ1 σ2) (hm : ∀ z, z ≠ 0 → z ≠ 7 → z ≠ 8 → z ≠ 9 → z ≠ 10 → z ≠ 21 → z ≠ 22 → μ2 z = μ1 z) (h3 : μ2 0 3 = μ1 0 3) (h8 : σ2 8 0 = σ1 8 0) : Rs ρ σ μ P0 ρ2 σ2 μ2 := by
  obtain ⟨a1, a2, a3, a4, a5, a6, a7, a8, a9, a10, a11⟩ := h
  have e4 := hr 4 (by decide) (by decide)
  have e5 := hr 5 (by decide) (by decide)
  have e8 := hr 8 (by decide) (by decide)
  have e9 := hr 9 (by decide) (by decide)
  have ew : wtl ρ2 (ρ2 4 0).toNat = wtl ρ1 (ρ1 4 0).toNat := by
    rw [e4]
    exact wtl_same _ (fun j _ _ => ⟨by rw [hr 2 (by decide) (by decide)], by rw [hr 3 (by decide) (by decide)]⟩)
  refine ⟨by rw [ew]; exact hW, hH, hA, a4.trans' hK, wc_congr a5 hr hm, e9.trans a6, by rw [e4, e5]; exact a7, by rw [e8, e5]; exact a8, fun a ha => ?_, a10.trans' ⟨fun z hz => ?_, h3⟩, a11.trans' ⟨by rw [h8, e8], fun q => q.of (by rw [e8]) (hr 6 (by decide) (by decide)) (hr 7 (by decide) (by decide)) (by rw [e5]) hK.2.2.1⟩⟩
  · rw [ew] at ha
    exact Int.le_trans (a9 a ha) hK.2.2.1
  · obtain ⟨z0, z7, z8, z9, z10, _, _, _, _, _, _, _, z21, z22, _⟩ := km_ne hz
    exact hm z z0 z7 z8 z9 z10 z21 z22
theorem coS_n {σ : jx_St} {n i : Int} {q : Nat} (h1 : q ≠ 1) (h3 : q ≠ 3) (h5 : q ≠ 5) (h6 : q ≠ 6) (h8 : q ≠ 8) : coS σ n q i = σ q i := by
  unfold coS
  rw [rmF_n h1 h3 h5 h6, rmF_n h1 h3 h5 h6, jx_su_ne h8]
theorem coS_3 {σ : jx_St} {n m : Int} (h5 : σ 3 n = 5) : coS σ n 3 m = if m = n then 3 else σ 3 m := by
  have r3 : ∀ m, rmF (jx_su σ 8 0 (σ 8 0 + 1)) n (max (cfa σ n) (cne σ n)) 3 m = if m = n then 4 else σ 3 m := fun m => by
    simp only [rmF]
    rw [if_neg (by decide), if_pos trivial, jx_su_ne (by decide), jx_su_ne (by decide), h5]
    rfl
  unfold coS
  generalize hu : rmF (jx_su σ 8 0 (σ 8 0 + 1)) n (max (cfa σ n) (cne σ n)) = υ at r3
  simp only [rmF]
  rw [if_neg (by decide), if_pos trivial, r3, if_pos rfl, r3]
  by_cases z : m = n
  · rw [if_pos z, if_pos z]; rfl
  · rw [if_neg z, if_neg z, if_neg z]
theorem wtl_push2 {ρ : jx_St} {w : Int} (h : 0 ≤ w) : wtl ρ (w + 2).toNat = (ρ 2 (w + 1), ρ 3 (w + 1)) :: (ρ 2 w, ρ 3 w) :: wtl ρ w.toNat := by
  have e : (w + 2).toNat = w.toNat + 1 + 1 := by omega
  rw [e]
  simp only [wtl]
  rw [show ((w.toNat + 1 : Nat) : Int) = w + 1 by omega, show ((w.toNat : Nat) : Int) = w by omega]
theorem climb_C {Q : Int → jx_St → jx_St → jx_St → Prop} {ρ0 σ0 μ0 ρ ψ σ μ : jx_St} {P0 : List (Int × Int)} {n : Int} (hR : Rs ρ0 σ0 μ0 P0 ρ σ μ) (hn : lvn σ n) (h5 : σ 3 n = 5) (hF : Fo σ n) (hr : n ≠ σ 7 0) (hb : bt (ρ 5 0) (σ 2 n) = 0) (hw : ρ 4 0 + 2 * unc (ρ 5 0) ≤ 9) (hc : ρ 8 0 + unc (ρ 5 0) ≤ 48) (hnp : σ 5 n ≠ -1)
    (h : ∀ ρ' ψ' τ μ', Rs ρ0 σ0 μ0 P0 ρ' τ μ' → Al τ → lvn τ n → (∀ (Qm : jx_St → Prop), Qm μ' → wp_M_court Qm μ n) → Q n ρ' ψ' τ) : wp_C_holdCourt Q ρ ψ σ n := by
  obtain ⟨hW, hH, hA, hK, hC, h9, hw1, hc1, hl, hM, hq⟩ := hR
  obtain ⟨c14, ⟨c5, c5'⟩, c13, c4, cw, c17, c8, cm⟩ := hC
  have l3 : σ 2 n < 4 := by have := (hW.sh.1 n hn).2.2; omega
  obtain ⟨o1, o2, o3⟩ := bt_or c5 c5' hn.2 l3 hb
  have u0 := (unc_bd (jx_or (ρ 5 0) (jx_shl 1 (σ 2 n)))).1
  have u4 := (unc_bd (ρ 5 0)).2
  obtain ⟨b, B, ⟨hB, hAb, b03, bk, b14, b17, b15, b16, b13, b11, b12⟩, bg⟩ := g_court hW hH hA hn h5 ⟨by rw [c13]; exact c4, by rw [c13]; omega⟩ ⟨by rw [c17]; exact c8, by rw [c17]; omega⟩
  refine p_holdCourt hW hH hB hn h5 ⟨c4, by omega⟩ ⟨c8, by omega⟩ (fun ρ' ψ' τ rk r5 r8 r6 r7 r4 r2 r3 tk tW tH => ?_)
  have s2 : ∀ m, τ 2 m = σ 2 m := fun m => by rw [tk 2 (by decide)]; exact coS_n (by decide) (by decide) (by decide) (by decide) (by decide)
  have s7 : τ 7 0 = σ 7 0 := by rw [tk 7 (by decide)]; exact coS_n (by decide) (by decide) (by decide) (by decide) (by decide)
  have s3 : ∀ m, τ 3 m = if m = n then 3 else σ 3 m := fun m => by rw [tk 3 (by decide)]; exact coS_3 h5
  have lv' : ∀ m, lvn τ m ↔ lvn σ m := fun m => by unfold lvn; rw [s2]
  have eP : wtl ρ' (ρ' 4 0).toNat ++ P0 = (th σ n (cne σ n), σ 2 n) :: (th σ n (cfa σ n), σ 2 n) :: (wtl ρ (ρ 4 0).toNat ++ P0) := by
    have f1 : ρ' 2 (ρ 4 0 + 1) = th σ n (cne σ n) := by rw [r2, if_pos rfl]
    have f2 : ρ' 2 (ρ 4 0) = th σ n (cfa σ n) := by rw [r2, if_neg (by omega), if_pos rfl]
    have f3 : ρ' 3 (ρ 4 0 + 1) = σ 2 n := by rw [r3, if_pos rfl]
    have f4 : ρ' 3 (ρ 4 0) = σ 2 n := by rw [r3, if_neg (by omega), if_pos rfl]
    rw [r4, wtl_push2 c4, f1, f2, f3, f4, wtl_same (ρ := ρ) (ρ' := ρ') _ (fun j j0 j1 => ⟨?_, ?_⟩)]
    · rfl
    · rw [r2, if_neg (by omega), if_neg (by omega)]
    · rw [r3, if_neg (by omega), if_neg (by omega)]
  have hKp : Kp σ τ := by
    refine ⟨by funext i; rw [tk 0 (by decide)]; exact coS_n (by decide) (by decide) (by decide) (by decide) (by decide), by funext i; rw [tk 10 (by decide)]; exact coS_n (by decide) (by decide) (by decide) (by decide) (by decide), by rw [s7, s2]; exact Int.le_refl _, fun hR => ?_⟩
    unfold R2 at hR ⊢
    rw [s7, s2, s3, if_neg (fun e => hr e.symm)]
    exact hR
  refine h ρ' ψ' τ b ⟨by rw [eP]; exact tW, tH, hAb.obs (by rw [tk 7 (by decide)]) (fun m => by rw [tk 2 (by decide)]) (fun m _ => by rw [tk 3 (by decide)]) (fun m k _ _ _ => by unfold th; rw [tk 6 (by decide)]) (fun c _ => by rw [tk 0 (by decide)]) (by rw [tk 8 (by decide)]) (by rw [tk 9 (by decide)]), hK.trans' hKp, ⟨by rw [b14, r5, c14], by rw [r5]; exact ⟨o1, o2⟩, by rw [b13, r4, c13], by omega, fun j j0 j1 => ?_, by rw [b17, r8, c17], by omega, fun j j0 j1 => ?_⟩, by rw [rk 9 (by decide) (by decide) (by decide) (by decide) (by decide) (by decide) (by decide), h9], by rw [r4, r5, o3]; omega, by rw [r8, r5, o3]; omega, fun a ha => ?_, hM.trans' ⟨fun z hz => ?_, b03⟩, hq.trans' ⟨?_, fun hcq j j0 j1 => ?_⟩⟩ (fun m hm => ?_) ((lv' n).mpr hn) bg
  · rw [b11, b12, r2, r3, c13]
    by_cases y1 : j = ρ 4 0 + 1
    · rw [if_pos y1, if_pos y1, if_pos y1, if_pos y1]; exact ⟨rfl, rfl⟩
    · rw [if_neg y1, if_neg y1, if_neg y1, if_neg y1]
      by_cases y2 : j = ρ 4 0
      · rw [if_pos y2, if_pos y2, if_pos y2, if_pos y2]; exact ⟨rfl, rfl⟩
      · rw [if_neg y2, if_neg y2, if_neg y2, if_neg y2]; exact cw j j0 (by omega)
  · rw [b15, b16, r6, r7, c17]
    by_cases y2 : j = ρ 8 0
    · rw [if_pos y2, if_pos y2, if_pos y2, if_pos y2]; exact ⟨rfl, rfl⟩
    · rw [if_neg y2, if_neg y2, if_neg y2, if_neg y2]; exact cm j j0 (by omega)
  · rw [s7, s2]
    rw [eP] at ha
    have hle := ((hW.2.1 n hn.1).resolve_left (by have := hn.2; omega)).2
    rcases List.mem_cons.mp ha with z | z
    · rw [z]; exact hle
    · rcases List.mem_cons.mp z with z | z
      · rw [z]; exact hle
      · exact hl a z
  · obtain ⟨z0, z7, z8, z9, z10, z11, z12, z13, z14, z15, z16, z17, z21, z22, z23⟩ := km_ne hz
    exact bk z z0 z7 z8 z11 z12 z13 z14 z15 z16 z17
  · have e8 : τ 8 0 = σ 8 0 + 1 := by
      rw [tk 8 (by decide)]
      unfold coS
      rw [rmF_n (by decide) (by decide) (by decide) (by decide), rmF_n (by decide) (by decide) (by decide) (by decide), jx_su_eq]
    rw [e8, r8]; omega
  · rw [r8] at j1
    rw [s7, s2, r6, r7, r5]
    have hlt : σ 2 n < σ 2 (σ 7 0) := lvl_lt hW hn hr (fun hmem => by
      rcases List.mem_append.mp hmem with z | z
      · have hx := (hW.2.2.2.2.2.2.2.1 n _ (List.mem_append_left _ z)).2 (by have := hn.2; omega)
        exact hnp hx
      · have hx := (hW.2.2.2.2.2.2.2.1 n _ (List.mem_append_right _ z)).2 (by have := hn.2; omega)
        exact hnp hx)
    by_cases y : j = ρ 8 0
    · rw [if_pos y, if_pos y]
      refine ⟨⟨hn.2, hlt, l3⟩, ?_, (bt_or2 c5 c5' hn.2 l3 hn.2 l3).1, fun i i0 i1 e => ?_⟩
      · by_cases z : σ 2 n = 0
        · rw [if_pos z]; exact ⟨by decide, by decide⟩
        · rw [if_neg z]
          have l0 := hn.2
          have big : ∀ k, 0 ≤ k → k < 5 → 1 ≤ B (th σ n k) := fun k k0 k1 => by
            obtain ⟨a, b, c, d⟩ := hW.kid hn (by omega) (th_kids k0 (show k < σ 3 n by omega))
            have h3 := ((hW.2.2.2.1 _ a).2.2.resolve_left List.not_mem_nil).1 d
            exact bel_pos hW hB (σ 2 (th σ n k)).toNat _ a (by have := a.2; omega) (by omega)
          obtain ⟨f0, f1, f2, f3, _⟩ := cfn σ n
          have b1 := big _ f0 f1
          have b2 := big _ f2 f3
          have sml : ∀ k, 0 ≤ k → k < 5 → B (th σ n k) ≤ 625 := fun k k0 k1 => by
            obtain ⟨a, b, c, d⟩ := hW.kid hn (by omega) (th_kids k0 (show k < σ 3 n by omega))
            have q1 := bel_le hW hB (σ 2 (th σ n k)).toNat _ a (by have := a.2; omega)
            have q2 := pw5_bd (σ 2 (th σ n k)).toNat (by omega)
            omega
          have b3 := sml _ f0 f1
          have b4 := sml _ f2 f3
          exact ⟨by omega, by omega⟩
      · rw [r6, if_neg (by omega)] at e
        obtain ⟨_, _, g3, _⟩ := hcq i i0 (by omega)
        rw [e] at g3
        exact g3 hb
    · rw [if_neg y, if_neg y]
      obtain ⟨⟨g1, g2, g2'⟩, g3, g4, g5⟩ := hcq j j0 (by omega)
      refine ⟨⟨g1, g2, g2'⟩, g3, (bt_or2 c5 c5' hn.2 l3 g1 g2').2 g4, fun i i0 i1 => ?_⟩
      rw [r6, if_neg (by omega)]
      exact g5 i i0 i1
  · rw [s3]
    by_cases y : m = n
    · rw [if_pos y]; decide
    · rw [if_neg y]; exact hF m ((lv' m).mp hm) y
