/-! ===== the pure part: places of nodes, nodes at places ===== -/
theorem fl_get {f : Int → Int} {k j : Nat} (h : j < k) : (fl f k)[j]? = some (f (j : Int)) := by
  unfold fl
  rw [List.getElem?_map, List.getElem?_range h]
  rfl
theorem FS_app {σ : jx_St} {A B : List Int} {l : Int} : FS σ (A ++ B) l = FS σ A l ++ FS σ B l := List.filter_append _ _
theorem FS_cons_pos {σ : jx_St} {x : Int} {B : List Int} {l : Int} (h : σ 2 x = l) : FS σ (x :: B) l = x :: FS σ B l := List.filter_cons_of_pos (by simpa using h)
theorem FS_cons_neg {σ : jx_St} {x : Int} {B : List Int} {l : Int} (h : σ 2 x ≠ l) : FS σ (x :: B) l = FS σ B l := List.filter_cons_of_neg (by simpa using h)
theorem FS_snoc {σ : jx_St} {f : Int → Int} {k : Nat} {l : Int} : FS σ (fl f (k + 1)) l = if σ 2 (f (k : Int)) = l then FS σ (fl f k) l ++ [f (k : Int)] else FS σ (fl f k) l := by
  rw [fl_succ, FS_app]
  by_cases c : σ 2 (f (k : Int)) = l
  · rw [if_pos c, FS_cons_pos c]; rfl
  · rw [if_neg c, FS_cons_neg c]; show _ ++ [] = _; rw [List.append_nil]
theorem sn_nd {σ ψ : jx_St} {S : List Int} {top i : Int} (hS : Sn σ ψ top S) (i0 : 0 ≤ i) (i1 : i < ψ 2 0) : lvn σ (ψ 1 i) ∧ i < 32 := by
  obtain ⟨h1, h2, h3, h4, h5, h6⟩ := hS
  refine ⟨(h6 _ ?_).1, by omega⟩
  rw [h3]
  exact mem_fl.mpr ⟨i, i0, by omega, rfl⟩
theorem p_placeOf {Q : Int → jx_St → Prop} {ψ σ : jx_St} {x : Int} (hW : Ws σ [] []) (hx : lvn σ x) (h : ∀ ψ' ψs S A B, Sn σ ψs (σ 7 0) S → S = A ++ x :: B → Q ((FS σ A (σ 2 x)).length : Int) ψ') : wp_S_placeOf Q ψ σ x := by
  refine p_lookFrom hW hW.1.1 (fun ψ1 S hS => p_levelOf hx.1 ?_)
  have hmem := sn_all hW hS x hx
  obtain ⟨s1, s2, s3, s4, s5, s6⟩ := id hS
  have nR : jx_R (ψ1 2 0) := jx_inR (by omega) (by omega)
  have lR := hW.R2 hx
  refine jx_loop (fun v => 0 ≤ v.2 ∧ v.2 ≤ ψ1 2 0 ∧ v.1 = ((FS σ (fl (ψ1 1) v.2.toNat) (σ 2 x)).length : Int) ∧ x ∉ fl (ψ1 1) v.2.toNat) (fun v => (ψ1 2 0 - v.2).toNat) (fun B v hI hB => ?_) ⟨Int.le_refl _, s1, rfl, by show x ∉ fl (ψ1 1) 0; exact List.not_mem_nil⟩
  obtain ⟨a, i⟩ := v
  obtain ⟨a1, a2, a3, a4⟩ := hI
  dsimp only at a1 a2 a3 a4 ⊢
  refine ⟨jx_inR (by omega) (by omega), nR, fun q => ?_, fun q => ?_⟩
  · obtain ⟨n1, n2⟩ := sn_nd hS a1 q
    refine p_nodeSeen a1 n2 ⟨n1.1.R, hx.1.R, fun e => ?_, fun e => ?_⟩
    · obtain ⟨R, hR⟩ := fl_split (f := ψ1 1) (i := i.toNat) (ψ1 2 0).toNat (by omega)
      rw [toNat_cast a1, e, ← s3] at hR
      rw [a3]
      exact h ψ1 ψ1 S _ R hS hR
    · have hnx : x ∉ fl (ψ1 1) (i + 1).toNat := by
        rw [show (i + 1).toNat = i.toNat + 1 by omega, fl_succ, toNat_cast a1]
        intro hm
        rcases List.mem_append.mp hm with z | z
        · exact a4 z
        · exact e (List.mem_singleton.mp z).symm
      have hfs := FS_snoc (σ := σ) (f := ψ1 1) (k := i.toNat) (l := σ 2 x)
      rw [toNat_cast a1] at hfs
      refine p_levelSeen a1 n2 n1.1 ⟨hW.R2 n1, lR, fun c => ?_, fun c => ?_⟩
      · refine hB _ ⟨by dsimp only; omega, by dsimp only; omega, ?_, hnx⟩ (by dsimp only; omega)
        dsimp only
        rw [show (i + 1).toNat = i.toNat + 1 by omega, hfs, if_pos c, List.length_append, a3]
        rfl
      · refine hB _ ⟨by dsimp only; omega, by dsimp only; omega, ?_, hnx⟩ (by dsimp only; omega)
        dsimp only
        rw [show (i + 1).toNat = i.toNat + 1 by omega, hfs, if_neg c, a3]
  · have : i = ψ1 2 0 := by omega
    rw [this, ← s3] at a4
    exact absurd hmem a4
theorem m_placeOf {σ μ ψ : jx_St} {S A B : List Int} {x : Int} (hW : Ws σ [] []) (hA : Ag σ μ) (hS : Sn σ ψ (σ 7 0) S) (hx : lvn σ x) (hs : S = A ++ x :: B) : ∃ b : jx_St, (∀ z, z ≠ 25 → z ≠ 26 → z ≠ 27 → b z = μ z) ∧ ∀ (Q : Int → jx_St → Prop), Q ((FS σ A (σ 2 x)).length : Int) b → wp_M_placeOf Q μ x := by
  have hr := ((hW.2.1 x hx.1).resolve_left (by have := hx.2; omega)).2
  obtain ⟨b, ⟨b1, b2, b3, b4⟩, bg⟩ := g_layRow hW hA hS ⟨hx.2, hr⟩
  refine ⟨b, b1, fun Q hQ => m_level hA hx.1 (bg _ ?_)⟩
  have eF : FS σ S (σ 2 x) = FS σ A (σ 2 x) ++ x :: FS σ B (σ 2 x) := by rw [hs, FS_app, FS_cons_pos rfl]
  have hlen : (FS σ A (σ 2 x)).length < (b 27 0).toNat := by
    have h1 := congrArg List.length b4
    rw [fl_len, eF, List.length_append, List.length_cons] at h1
    omega
  have hnd : (FS σ S (σ 2 x)).Nodup := List.Pairwise.filter _ hS.2.2.2.2.1
  rw [eF] at hnd b4
  have hget : ∀ j : Nat, j < (b 27 0).toNat → (FS σ A (σ 2 x) ++ x :: FS σ B (σ 2 x))[j]? = some (b 25 (j : Int)) := fun j hj => by rw [← b4]; exact fl_get hj
  have hR : ∀ j : Nat, j < (b 27 0).toNat → jx_R (b 25 (j : Int)) := fun j hj => by
    have : b 25 (j : Int) ∈ FS σ A (σ 2 x) ++ x :: FS σ B (σ 2 x) := List.mem_of_getElem? (hget j hj)
    rw [← eF] at this
    exact ((hS.2.2.2.2.2 _ (mem_FS.mp this).1).1).1.R
  refine jx_loop (fun v => 0 ≤ v ∧ v ≤ ((FS σ A (σ 2 x)).length : Int)) (fun v => (40 - v).toNat) (fun B' v hI hB => ?_) ⟨Int.le_refl _, by omega⟩
  obtain ⟨a1, a2⟩ := hI
  have ev : ((v.toNat : Nat) : Int) = v := toNat_cast a1
  have vR : jx_R (b 25 v) := by rw [← ev]; exact hR v.toNat (by omega)
  refine ⟨⟨a1, by show v < 40; omega⟩, vR, hx.1.R, fun e => ?_, fun e => ?_⟩
  · have hv : v = ((FS σ A (σ 2 x)).length : Int) := by
      by_cases c : v.toNat < (FS σ A (σ 2 x)).length
      · have h1 := hget v.toNat (by omega)
        rw [List.getElem?_append_left c, ev, e] at h1
        have h2 := List.mem_of_getElem? h1
        exact absurd rfl ((List.nodup_append.mp hnd).2.2 x h2 x List.mem_cons_self)
      · omega
    rw [hv]; exact hQ
  · refine hB _ ⟨by omega, ?_⟩ (by omega)
    by_cases c : v = ((FS σ A (σ 2 x)).length : Int)
    · have h1 := hget v.toNat (by omega)
      rw [show v.toNat = (FS σ A (σ 2 x)).length by omega, List.getElem?_append_right (Nat.le_refl _), Nat.sub_self, ← c] at h1
      exact absurd (Option.some.inj h1).symm e
    · omega
theorem p_nodeAt {Q : Int → jx_St → Prop} {ψ σ : jx_St} {l p : Int} (hW : Ws σ [] []) (lR : jx_R l) (p0 : 0 ≤ p) (pR : jx_R p) (h1 : ∀ ψ' ψs S x, Sn σ ψs (σ 7 0) S → (FS σ S l)[p.toNat]? = some x → Q x ψ') (h2 : ∀ ψ' ψs S, Sn σ ψs (σ 7 0) S → (FS σ S l)[p.toNat]? = none → Q (-1) ψ') : wp_S_nodeAt Q ψ σ l p := by
  refine p_lookFrom hW hW.1.1 (fun ψ1 S hS => ?_)
  obtain ⟨s1, s2, s3, s4, s5, s6⟩ := id hS
  have nR : jx_R (ψ1 2 0) := jx_inR (by omega) (by omega)
  refine jx_loop (fun v => 0 ≤ v.2 ∧ v.2 ≤ ψ1 2 0 ∧ v.1 = ((FS σ (fl (ψ1 1) v.2.toNat) l).length : Int) ∧ v.1 ≤ p) (fun v => (ψ1 2 0 - v.2).toNat) (fun B v hI hB => ?_) ⟨Int.le_refl _, s1, rfl, p0⟩
  obtain ⟨a, i⟩ := v
  obtain ⟨a1, a2, a3, a4⟩ := hI
  dsimp only at a1 a2 a3 a4 ⊢
  have hle : (FS σ (fl (ψ1 1) i.toNat) l).length ≤ i.toNat := by
    have := List.length_filter_le (fun x => decide (σ 2 x = l)) (fl (ψ1 1) i.toNat)
    rw [fl_len] at this
    exact this
  refine ⟨jx_inR (by omega) (by omega), nR, fun q => ?_, fun q => ?_⟩
  · obtain ⟨n1, n2⟩ := sn_nd hS a1 q
    have hfs := FS_snoc (σ := σ) (f := ψ1 1) (k := i.toNat) (l := l)
    rw [toNat_cast a1] at hfs
    refine p_levelSeen a1 n2 n1.1 ⟨hW.R2 n1, lR, fun c => ⟨jx_inR (by omega) (by omega), pR, fun e => ?_, fun e => ?_⟩, fun c => ?_⟩
    · refine p_nodeSeen a1 n2 (h1 ψ1 ψ1 S _ hS ?_)
      obtain ⟨R, hR⟩ := fl_split (f := ψ1 1) (i := i.toNat) (ψ1 2 0).toNat (by omega)
      rw [toNat_cast a1, ← s3] at hR
      rw [hR, FS_app, FS_cons_pos c, List.getElem?_append_right (by omega), show p.toNat - (FS σ (fl (ψ1 1) i.toNat) l).length = 0 by omega]
      rfl
    · refine hB _ ⟨by dsimp only; omega, by dsimp only; omega, ?_, by dsimp only; omega⟩ (by dsimp only; omega)
      dsimp only
      rw [show (i + 1).toNat = i.toNat + 1 by omega, hfs, if_pos c, List.length_append, a3]
      rfl
    · refine hB _ ⟨by dsimp only; omega, by dsimp only; omega, ?_, a4⟩ (by dsimp only; omega)
      dsimp only
      rw [show (i + 1).toNat = i.toNat + 1 by omega, hfs, if_neg c, a3]
  · refine h2 ψ1 ψ1 S hS ?_
    have : i = ψ1 2 0 := by omega
    rw [this, ← s3] at a3
    rw [List.getElem?_eq_none_iff]
    omega
