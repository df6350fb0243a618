/-! ===== the pure part: sums over all nodes ===== -/
def up (i : Int) : List Int := fl (fun j => j) (min i 32).toNat
theorem up_in {g : Int → Int} {i : Int} (h0 : 0 ≤ i) (h1 : i < 32) : smL g (up (i + 1)) = smL g (up i) + g i := by
  unfold up
  rw [show (min (i + 1) 32).toNat = i.toNat + 1 by omega, show (min i 32).toNat = i.toNat by omega, fl_succ, smL_app, toNat_cast h0]
  show _ + (g i + 0) = _
  omega
theorem up_out {i : Int} (h1 : 32 ≤ i) : up (i + 1) = up i := by
  unfold up
  rw [show min (i + 1) 32 = 32 by omega, show min i 32 = 32 by omega]
theorem up_all {i : Int} (h1 : 32 ≤ i) : up i = nds := by
  unfold up
  rw [show min i 32 = 32 by omega]
  rfl
/-- of live nodes alone -/
def gD (σ : jx_St) (g : Int → Int) : Int → Int := fun n => if σ 2 n = -1 then 0 else g n
theorem sn_gD {σ ψ : jx_St} {S : List Int} {g : Int → Int} (hW : Ws σ [] []) (hS : Sn σ ψ (σ 7 0) S) : smL g S = smL (gD σ g) nds := by
  rw [← sn_sum (g := gD σ g) hW hS (fun n _ h => by unfold gD; rw [if_pos h])]
  refine smL_congr (fun x hx => ?_)
  have := (hS.2.2.2.2.2 x hx).1.2
  unfold gD
  rw [if_neg (by omega)]
theorem fl_sum {f g : Int → Int} {i : Int} (h : 0 ≤ i) : smL g (fl f (i + 1).toNat) = smL g (fl f i.toNat) + g (f i) := by
  rw [show (i + 1).toNat = i.toNat + 1 by omega, fl_succ, smL_app, toNat_cast h]
  show _ + (g (f i) + 0) = _
  omega
def gLe (σ : jx_St) : Int → Int := fun n => if σ 2 n = 0 then 1 else 0
def gAr (σ : jx_St) : Int → Int := fun n => if σ 2 n = 0 then arF (σ 4 n) else 0
def gTo (σ : jx_St) (w : Int) : Int → Int := fun n => if toF (σ 4 n) w = 0 then 0 else 1
def gDi (σ : jx_St) (x y d : Int) : Int → Int := fun n => if σ 4 n = -1 then 0 else if diF (σ 4 n) x y ≤ d then 1 else 0
theorem p_leaves {Q : Int → jx_St → Prop} {ψ σ : jx_St} (hW : Ws σ [] []) (h : ∀ ψ', Q (smL (gD σ (gLe σ)) nds) ψ') : wp_S_leaves Q ψ σ := by
  refine p_lookFrom hW hW.1.1 (fun ψ1 S hS => ?_)
  have s1 := hS.1
  have s2 := hS.2.1
  refine jx_loop (fun v => 0 ≤ v.2 ∧ v.2 ≤ ψ1 2 0 ∧ v.1 = smL (gLe σ) (fl (ψ1 1) v.2.toNat)) (fun v => (ψ1 2 0 - v.2).toNat) (fun B v hI hB => ?_) ⟨Int.le_refl _, s1, rfl⟩
  obtain ⟨a, i⟩ := v
  obtain ⟨a1, a2, a3⟩ := hI
  dsimp only at a1 a2 a3 ⊢
  refine ⟨jx_inR (by omega) (by omega), jx_inR (by omega) (by omega), fun q => ?_, fun q => ?_⟩
  · obtain ⟨n1, n2⟩ := sn_nd hS a1 q
    refine p_levelSeen a1 n2 n1.1 ⟨hW.R2 n1, fun c => hB _ ⟨by dsimp only; omega, by dsimp only; omega, ?_⟩ (by dsimp only; omega), fun c => hB _ ⟨by dsimp only; omega, by dsimp only; omega, ?_⟩ (by dsimp only; omega)⟩
    · dsimp only; rw [fl_sum a1, a3]; unfold gLe; rw [if_pos c]
    · dsimp only; rw [fl_sum a1, a3]; unfold gLe; rw [if_neg c]; omega
  · have ei : i = ψ1 2 0 := by omega
    rw [a3, ei, ← hS.2.2.1, sn_gD hW hS]
    exact h ψ1
theorem p_areaOfLeaves {Q : Int → jx_St → Prop} {ψ σ : jx_St} (hW : Ws σ [] []) (hH : Hs σ []) (h : ∀ ψ', Q (smL (gD σ (gAr σ)) nds) ψ') : wp_S_areaOfLeaves Q ψ σ := by
  refine p_lookFrom hW hW.1.1 (fun ψ1 S hS => ?_)
  have s1 := hS.1
  have s2 := hS.2.1
  refine jx_loop (fun v => 0 ≤ v.2 ∧ v.2 ≤ ψ1 2 0 ∧ v.1 = smL (gAr σ) (fl (ψ1 1) v.2.toNat)) (fun v => (ψ1 2 0 - v.2).toNat) (fun B v hI hB => ?_) ⟨Int.le_refl _, s1, rfl⟩
  obtain ⟨a, i⟩ := v
  obtain ⟨a1, a2, a3⟩ := hI
  dsimp only at a1 a2 a3 ⊢
  refine ⟨jx_inR (by omega) (by omega), jx_inR (by omega) (by omega), fun q => ?_, fun q => ?_⟩
  · obtain ⟨n1, n2⟩ := sn_nd hS a1 q
    refine p_levelSeen a1 n2 n1.1 ⟨hW.R2 n1, fun c => p_hullSeen a1 n2 n1.1 (p_area (hH.1 _ n1.1).R (hB _ ⟨by dsimp only; omega, by dsimp only; omega, ?_⟩ (by dsimp only; omega))), fun c => hB _ ⟨by dsimp only; omega, by dsimp only; omega, ?_⟩ (by dsimp only; omega)⟩
    · dsimp only; rw [fl_sum a1, a3]; unfold gAr; rw [if_pos c]
    · dsimp only; rw [fl_sum a1, a3]; unfold gAr; rw [if_neg c]; omega
  · have ei : i = ψ1 2 0 := by omega
    rw [a3, ei, ← hS.2.2.1, sn_gD hW hS]
    exact h ψ1
theorem p_nodesTouching {Q : Int → jx_St → Prop} {ψ σ : jx_St} {w : Int} (hW : Ws σ [] []) (hH : Hs σ []) (wR : jx_R w) (h : ∀ ψ', Q (smL (gD σ (gTo σ w)) nds) ψ') : wp_S_nodesTouching Q ψ σ w := by
  refine p_lookFrom hW hW.1.1 (fun ψ1 S hS => ?_)
  have s1 := hS.1
  have s2 := hS.2.1
  refine jx_loop (fun v => 0 ≤ v.2 ∧ v.2 ≤ ψ1 2 0 ∧ v.1 = smL (gTo σ w) (fl (ψ1 1) v.2.toNat)) (fun v => (ψ1 2 0 - v.2).toNat) (fun B v hI hB => ?_) ⟨Int.le_refl _, s1, rfl⟩
  obtain ⟨a, i⟩ := v
  obtain ⟨a1, a2, a3⟩ := hI
  dsimp only at a1 a2 a3 ⊢
  refine ⟨jx_inR (by omega) (by omega), jx_inR (by omega) (by omega), fun q => ?_, fun q => ?_⟩
  · obtain ⟨n1, n2⟩ := sn_nd hS a1 q
    refine p_hullSeen a1 n2 n1.1 (p_touch (hH.1 _ n1.1).R wR ⟨toF_R _ _, fun c => hB _ ⟨by dsimp only; omega, by dsimp only; omega, ?_⟩ (by dsimp only; omega), fun c => hB _ ⟨by dsimp only; omega, by dsimp only; omega, ?_⟩ (by dsimp only; omega)⟩)
    · dsimp only; rw [fl_sum a1, a3]; unfold gTo; rw [if_pos c]; omega
    · dsimp only; rw [fl_sum a1, a3]; unfold gTo; rw [if_neg c]
  · have ei : i = ψ1 2 0 := by omega
    rw [a3, ei, ← hS.2.2.1, sn_gD hW hS]
    exact h ψ1
theorem diF_bd (b x y : Int) (hx : 0 ≤ x ∧ x ≤ 99) (hy : 0 ≤ y ∧ y ≤ 99) : 0 ≤ diF b x y ∧ diF b x y ≤ 40000 := by
  have a0 := bs_ge b 0
  have a1 := bs_ge b 1
  have a2 := bs_ge b 2
  have a3 := bs_ge b 3
  have b0 := bs_lt b 0
  have b1 := bs_lt b 1
  have b2 := bs_lt b 2
  have b3 := bs_lt b 3
  have u : ∀ t : Int, 0 ≤ t → t ≤ 127 → 0 ≤ t * t ∧ t * t ≤ 16129 := fun t t0 t1 => ⟨Int.mul_nonneg t0 t0, Int.le_trans (Int.mul_le_mul t1 t1 t0 (by decide)) (by decide)⟩
  have p := u (max 0 (max (bs b 0 - x) (x - bs b 2))) (by omega) (by omega)
  have q := u (max 0 (max (bs b 1 - y) (y - bs b 3))) (by omega) (by omega)
  unfold diF
  omega
theorem p_nodesWithin {Q : Int → jx_St → Prop} {ψ σ : jx_St} {x y d : Int} (hW : Ws σ [] []) (hH : Hs σ []) (hx : 0 ≤ x ∧ x ≤ 99) (hy : 0 ≤ y ∧ y ≤ 99) (dR : jx_R d) (h : ∀ ψ', Q (smL (gD σ (gDi σ x y d)) nds) ψ') : wp_S_nodesWithin Q ψ σ x y d := by
  refine p_lookFrom hW hW.1.1 (fun ψ1 S hS => ?_)
  have s1 := hS.1
  have s2 := hS.2.1
  refine jx_loop (fun v => 0 ≤ v.2 ∧ v.2 ≤ ψ1 2 0 ∧ v.1 = smL (gDi σ x y d) (fl (ψ1 1) v.2.toNat)) (fun v => (ψ1 2 0 - v.2).toNat) (fun B v hI hB => ?_) ⟨Int.le_refl _, s1, rfl⟩
  obtain ⟨a, i⟩ := v
  obtain ⟨a1, a2, a3⟩ := hI
  dsimp only at a1 a2 a3 ⊢
  refine ⟨jx_inR (by omega) (by omega), jx_inR (by omega) (by omega), fun q => ?_, fun q => ?_⟩
  · obtain ⟨n1, n2⟩ := sn_nd hS a1 q
    have db := diF_bd (σ 4 (ψ1 1 i)) x y hx hy
    refine p_hullSeen a1 n2 n1.1 ⟨(hH.1 _ n1.1).R, fun c => hB _ ⟨by dsimp only; omega, by dsimp only; omega, ?_⟩ (by dsimp only; omega), fun c => p_hullSeen a1 n2 n1.1 (p_distance hx hy ⟨jx_inR (by omega) (by omega), dR, fun e => hB _ ⟨by dsimp only; omega, by dsimp only; omega, ?_⟩ (by dsimp only; omega), fun e => hB _ ⟨by dsimp only; omega, by dsimp only; omega, ?_⟩ (by dsimp only; omega)⟩)⟩
    · dsimp only; rw [fl_sum a1, a3]; unfold gDi; rw [if_pos c]; omega
    · dsimp only; rw [fl_sum a1, a3]; unfold gDi; rw [if_neg c, if_pos e]
    · dsimp only; rw [fl_sum a1, a3]; unfold gDi; rw [if_neg c, if_neg e]; omega
  · have ei : i = ψ1 2 0 := by omega
    rw [a3, ei, ← hS.2.2.1, sn_gD hW hS]
    exact h ψ1
theorem p_nodes {Q : Int → jx_St → Prop} {ψ σ : jx_St} (hW : Ws σ [] []) (h : ∀ ψ', Q (smL (gD σ (fun _ => 1)) nds) ψ') : wp_S_nodes Q ψ σ := by
  refine p_lookFrom hW hW.1.1 (fun ψ1 S hS => ?_)
  have e : ψ1 2 0 = smL (gD σ (fun _ => 1)) nds := by
    rw [← sn_gD hW hS, ← (sn_len hS).2]
    generalize S = L
    induction L with
    | nil => rfl
    | cons x L ih => rw [smL_cons, ← ih, List.length_cons]; omega
  show Q (ψ1 2 0) ψ1
  rw [e]
  exact h ψ1
