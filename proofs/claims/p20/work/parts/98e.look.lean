/-! ===== the property: windows, nearest boxes ===== -/
theorem q_window0 {Q : Int → jx_St → Prop} {sB sS σ : jx_St} {a b c d : Int} (hI : Inv σ) (hw : Wn a b c d) (h : Q (tbF σ (bo a b c d) 31) sS) : wp_B_window Q sB sS σ a b c d 0 :=
  p_isWindow_t hw (c1 (p_upTo_t (Int.le_refl 0) (by decide) (R_lit 1 (by decide)) (c1 (p_of ⟨R_lit 0 (by decide), fun _ => p_boxesTouching hI (vb_bo hw).R h, fun z => absurd rfl z⟩))))
theorem q_window1 {Q : Int → jx_St → Prop} {sB sS σ : jx_St} {a b c d : Int} (hI : Inv σ) (hw : Wn a b c d) (h : ∀ ψ', Q (smL (gD σ (gTo σ (bo a b c d))) nds) ψ') : wp_B_window Q sB sS σ a b c d 1 :=
  p_isWindow_t hw (c1 (p_upTo_t (by decide) (Int.le_refl 1) (R_lit 1 (by decide)) (c1 (p_of ⟨R_lit 1 (by decide), fun z => absurd z (by decide), fun _ => p_nodesTouching hI.1 hI.2.1 (vb_bo hw).R h⟩))))
def twF (σ : jx_St) (w : Int) : Nat → Int → Int
  | 0 => fun _ => 0
  | k + 1 => if toF (σ 0 (k : Int)) w = 0 then twF σ w k else setD (twF σ w k) (k : Int)
theorem tbF_bD {σ : jx_St} {w : Int} (m : Nat) (hm : m ≤ 31) : tbF σ w m = bD (twF σ w m) := by
  induction m with
  | zero => exact bD_0.symm
  | succ m ih =>
    simp only [tbF, twF]
    by_cases c : toF (σ 0 (m : Int)) w = 0
    · rw [if_pos c, if_pos c]; exact ih (by omega)
    · rw [if_neg c, if_neg c, ih (by omega), bD_or ⟨by omega, by omega⟩]
theorem twF_iff {σ : jx_St} {w b : Int} (m : Nat) : twF σ w m b ≠ 0 ↔ (0 ≤ b ∧ b < (m : Int) ∧ toF (σ 0 b) w ≠ 0) := by
  induction m with
  | zero => exact ⟨fun h => absurd rfl h, fun ⟨a, c, _⟩ => by omega⟩
  | succ m ih =>
    simp only [twF]
    by_cases c : toF (σ 0 (m : Int)) w = 0
    · rw [if_pos c, ih]
      constructor
      · rintro ⟨a1, a2, a3⟩; exact ⟨a1, by omega, a3⟩
      · rintro ⟨a1, a2, a3⟩
        refine ⟨a1, ?_, a3⟩
        have : b ≠ (m : Int) := fun e => a3 (by rw [e]; exact c)
        omega
    · rw [if_neg c]
      unfold setD
      by_cases e : b = (m : Int)
      · rw [if_pos e]
        exact ⟨fun _ => ⟨by omega, by omega, by rw [e]; exact c⟩, fun _ => by decide⟩
      · rw [if_neg e, ih]
        constructor
        · rintro ⟨a1, a2, a3⟩; exact ⟨a1, by omega, a3⟩
        · rintro ⟨a1, a2, a3⟩; exact ⟨a1, by omega, a3⟩
theorem win_bit {σ : jx_St} {w b : Int} (hb : nb b) : jx_and (jx_shr (tbF σ w 31) b) 1 = if toF (σ 0 b) w ≠ 0 then 1 else 0 := by
  have h0 := hb.1
  have h1 := hb.2
  rw [tbF_bD 31 (Nat.le_refl _), bD_test hb]
  by_cases c : toF (σ 0 b) w ≠ 0
  · rw [if_pos c, if_pos ((twF_iff 31).mpr ⟨h0, by omega, c⟩)]
  · rw [if_neg c, if_neg (fun z => c ((twF_iff 31).mp z).2.2)]
theorem toF_bo {v a b c d : Int} (hv : vb v) (hw : Wn a b c d) : toF v (bo a b c d) ≠ 0 ↔ (bs v 0 ≤ c ∧ a ≤ bs v 2 ∧ bs v 1 ≤ d ∧ b ≤ bs v 3) := by
  obtain ⟨q0, q1, q2, q3⟩ := bs_bo_w hw
  have hv0 := hv.1
  have hw0 := (vb_bo hw).1
  unfold toF
  rw [if_neg (by omega), q0, q1, q2, q3]
  by_cases t : bs v 0 ≤ c ∧ a ≤ bs v 2 ∧ bs v 1 ≤ d ∧ b ≤ bs v 3
  · rw [if_pos t]; exact ⟨fun _ => t, fun _ => by decide⟩
  · rw [if_neg t]; exact ⟨fun z => absurd rfl z, fun z => absurd z t⟩
/-- the boxes in the row of the nearest ones -/
theorem ahN_all {σ : jx_St} {x y s : Int} (hx : 0 ≤ x ∧ x ≤ 99) (hy : 0 ≤ y ∧ y ≤ 99) (hs : 2000000 ≤ s) : ∀ k : Nat, k ≤ 31 → ahN σ x y s k = (sN (cB σ) k : Nat) := by
  intro k
  induction k with
  | zero => intro _; rfl
  | succ k ih =>
    intro hk
    simp only [ahN, sN]
    rw [ih (by omega)]
    obtain ⟨r1, r2, _⟩ := rk_bd (σ := σ) (b := (k : Int)) ⟨by omega, by omega⟩ hx hy
    unfold cB
    by_cases c : σ 0 (k : Int) = -1
    · rw [r1 c, if_neg (fun z => z.1 rfl), if_neg (fun z => z.2 c)]; omega
    · obtain ⟨r3, r4⟩ := r2 c
      have hd := diF_bd (σ 0 (k : Int)) x y hx hy
      rw [if_pos ⟨by omega, by rw [r3]; omega⟩, if_pos ⟨by omega, c⟩]; omega
def rkF (σ : jx_St) (x y b : Int) : Int := ahN σ x y (rk σ x y b) 31
theorem rkF_lt {σ : jx_St} {x y b : Int} (hx : 0 ≤ x ∧ x ≤ 99) (hy : 0 ≤ y ∧ y ≤ 99) (hb : nb b) (hn : σ 0 b ≠ -1) : 0 ≤ rkF σ x y b ∧ rkF σ x y b < nBx σ := by
  obtain ⟨_, r2, _⟩ := rk_bd hb hx hy (σ := σ)
  obtain ⟨r3, r4⟩ := r2 hn
  have hd := diF_bd (σ 0 b) x y hx hy
  have b0 := hb.1
  have b1 := hb.2
  have h := (ahN_lt (σ := σ) (x := x) (y := y) (r := rk σ x y b) (s := 2000000) (by rw [r3]; omega) 31).2 ⟨b, b0, by omega, by omega, rfl, by rw [r3]; omega⟩
  rw [ahN_all hx hy (Int.le_refl _) 31 (Nat.le_refl _)] at h
  exact ⟨(ahN_bd σ x y _ 31).1, h⟩
theorem rk_ex {σ : jx_St} {x y n : Int} (hI : Inv σ) (hx : 0 ≤ x ∧ x ≤ 99) (hy : 0 ≤ y ∧ y ≤ 99) (n0 : 0 ≤ n) (n1 : n < nBx σ) : ∃ b, nb b ∧ σ 0 b ≠ -1 ∧ rkF σ x y b = n := by
  have hm := fun b => mem_bxs hI (b := b)
  by_cases c : n ∈ (bxs σ).map (rkF σ x y)
  · obtain ⟨b, hb, e⟩ := List.mem_map.mp c
    exact ⟨b, ((hm b).mp hb).1, ((hm b).mp hb).2, e⟩
  · exfalso
    have hnd : (n :: (bxs σ).map (rkF σ x y)).Nodup := by
      refine List.nodup_cons.mpr ⟨c, List.pairwise_map.mpr (List.Pairwise.imp_of_mem (fun {a b} ha hb hab e => ?_) (bxs_nodup hI))⟩
      exact hab (rk_one hx hy ((hm a).mp ha).1 ((hm b).mp hb).1 ((hm a).mp ha).2 ((hm b).mp hb).2 e)
    have h2 := List.Nodup.length_le_of_subset (l₂ := (List.range (nBx σ).toNat).map (fun k : Nat => (k : Int))) hnd (fun z hz => by
      have hz2 : 0 ≤ z ∧ z < nBx σ := by
        rcases List.mem_cons.mp hz with e | e
        · rw [e]; exact ⟨n0, n1⟩
        · obtain ⟨b, hb, e⟩ := List.mem_map.mp e
          rw [← e]
          exact rkF_lt hx hy ((hm b).mp hb).1 ((hm b).mp hb).2
      exact List.mem_map.mpr ⟨z.toNat, List.mem_range.mpr (by omega), Int.toNat_of_nonneg hz2.1⟩)
    rw [List.length_cons, List.length_map, List.length_map, List.length_range, nBx_len hI] at h2
    omega
theorem rk_less {σ : jx_St} {x y b c : Int} (h : rkF σ x y b < rkF σ x y c) : rk σ x y b < rk σ x y c := by
  rcases Int.lt_or_le (rk σ x y b) (rk σ x y c) with z | z
  · exact z
  · have := (ahN_lt (σ := σ) (x := x) (y := y) z 31).1
    unfold rkF at h
    omega
theorem q_nearest {Q : Int → jx_St → jx_St → Prop} {sB sS σ : jx_St} {x y n k : Int} (hI : Inv σ) (hx : 0 ≤ x ∧ x ≤ 99) (hy : 0 ≤ y ∧ y ≤ 99) (n0 : 0 ≤ n) (nR : jx_R n) (hk : 0 ≤ k ∧ k ≤ 2) {b : Int} (hb : nb b) (hn : σ 0 b ≠ -1) (he : rkF σ x y b = n)
    (h0 : k = 0 → ∀ β', Q b β' sS) (h1 : k = 1 → ∀ β', Q (diF (σ 0 b) x y) β' sS) (h2 : k = 2 → ∀ β' ψ', Q (smL (gD σ (gDi σ x y (diF (σ 0 b) x y))) nds) β' ψ') : wp_B_nearest Q sB sS σ x y n k := by
  have b0 := hb.1
  have b1 := hb.2
  have kR : jx_R k := jx_inR (by omega) (by omega)
  refine p_isPoint_t hx (c1 (p_isPoint_t hy (c1 ⟨nR, fun z => absurd z (by omega), fun _ => p_upTo_t hk.1 hk.2 (R_lit 2 (by decide)) (c1 (p_boxOfRank hI hx hy nR (fun β' t ht hu => ?_)))⟩)))
  have et : b = t := (hu b hb).mp ⟨hn, he⟩
  subst et
  rw [if_pos b1]
  have hd := diF_bd (σ 0 b) x y hx hy
  refine ⟨hb.R, fun z => absurd z (by omega), fun _ => ⟨kR, fun z => h0 z β', fun _ => p_hull (R_lit 0 (by decide)) (by unfold tv; rw [if_pos rfl]; exact hb) ?_⟩⟩
  rw [hv_0]
  exact p_distance hx hy ⟨kR, fun z => h1 z β', fun z => p_nodesWithin hI.1 hI.2.1 hx hy (jx_inR (by omega) (by omega)) (fun ψ' => h2 (by omega) β' ψ')⟩
theorem q_nearest_no {Q : Int → jx_St → jx_St → Prop} {sB sS σ : jx_St} {x y n k : Int} (hI : Inv σ) (hx : 0 ≤ x ∧ x ≤ 99) (hy : 0 ≤ y ∧ y ≤ 99) (n0 : nBx σ ≤ n) (nR : jx_R n) (hk : 0 ≤ k ∧ k ≤ 2) (h : ∀ β', Q (-1000004) β' sS) : wp_B_nearest Q sB sS σ x y n k := by
  have kR : jx_R k := jx_inR (by omega) (by omega)
  have hb0 := nBx_bd hI
  refine p_isPoint_t hx (c1 (p_isPoint_t hy (c1 ⟨nR, fun z => absurd z (by omega), fun _ => p_upTo_t hk.1 hk.2 (R_lit 2 (by decide)) (c1 (p_boxOfRank hI hx hy nR (fun β' t ht hu => ?_)))⟩)))
  by_cases c : t < 31
  · have := (hu t ⟨ht.1, c⟩).mpr rfl
    have h2 := rkF_lt hx hy ⟨ht.1, c⟩ this.1
    have h3 : rkF σ x y t = n := this.2
    omega
  · rw [if_neg c]
    exact ⟨R_lit (-1) (by decide), fun _ => h _, fun z => absurd rfl z⟩
/-- a box around is no farther -/
theorem sq_le {a b : Int} (h0 : 0 ≤ a) (h : a ≤ b) : a * a ≤ b * b := Int.mul_le_mul h h h0 (by omega)
theorem diF_mono {v w x y : Int} (h0 : bs v 0 ≤ bs w 0) (h1 : bs v 1 ≤ bs w 1) (h2 : bs w 2 ≤ bs v 2) (h3 : bs w 3 ≤ bs v 3) : diF v x y ≤ diF w x y := by
  unfold diF
  have e1 := sq_le (a := max 0 (max (bs v 0 - x) (x - bs v 2))) (b := max 0 (max (bs w 0 - x) (x - bs w 2))) (by omega) (by omega)
  have e2 := sq_le (a := max 0 (max (bs v 1 - y) (y - bs v 3))) (b := max 0 (max (bs w 1 - y) (y - bs w 3))) (by omega) (by omega)
  omega
theorem hull_in {σ : jx_St} (hI : Inv σ) {n x : Int} (hn : lvn σ n) (hx : x ∈ kids σ n) (a b : Int) : diF (σ 4 n) a b ≤ diF (hv σ x (σ 2 n)) a b := by
  obtain ⟨k, k0, k1, e⟩ := mem_kids.mp hx
  have h := fun q q0 q1 => (hull_side hI hn (show 1 ≤ σ 3 n by omega) (q := q) q0 q1).2 k k0 k1
  rw [e] at h
  exact diF_mono ((h 0 (by decide) (by decide)).1 (by decide)) ((h 1 (by decide) (by decide)).1 (by decide)) ((h 2 (by decide) (by decide)).2 (by decide)) ((h 3 (by decide) (by decide)).2 (by decide))
theorem near_level {σ : jx_St} (hI : Inv σ) {b x y : Int} (hb : nb b) (hn : σ 0 b ≠ -1) : ∀ m : Nat, (m : Int) ≤ σ 2 (σ 7 0) → ∃ n, n ∈ row σ (m : Int) ∧ 1 ≤ σ 3 n ∧ diF (σ 4 n) x y ≤ diF (σ 0 b) x y := by
  intro m
  induction m with
  | zero =>
    intro _
    obtain ⟨h1, h2, h3⟩ := box_home hI hb hn
    have h4 := hull_in hI h1 h3 x y
    rw [h2, hv_0] at h4
    obtain ⟨k, k0, k1, _⟩ := mem_kids.mp h3
    exact ⟨_, (mem_row hI.1).mpr ⟨h1, h2⟩, by omega, h4⟩
  | succ m ih =>
    intro hm
    obtain ⟨n, h1, h2, h3⟩ := ih (by omega)
    obtain ⟨h4, h5⟩ := (mem_row hI.1).mp h1
    have hne : n ≠ σ 7 0 := fun e => by rw [e] at h5; omega
    have ha : alv σ n (σ 2 n + 1) := Or.inr ⟨by omega, h4, by omega, hne⟩
    obtain ⟨g1, g2, g3⟩ := (hI.1.2.2.2.2.2.2.1 n _ ha).resolve_left List.not_mem_nil
    have h6 := hull_in hI g1 g3 x y
    rw [g2] at h6
    have eh : hv σ n (σ 2 n + 1) = σ 4 n := by unfold hv; rw [if_neg (by omega)]
    rw [eh] at h6
    obtain ⟨k, k0, k1, _⟩ := mem_kids.mp g3
    exact ⟨_, (mem_row hI.1).mpr ⟨g1, by omega⟩, by omega, by omega⟩
theorem smL_le {f g : Int → Int} {L : List Int} (h : ∀ x ∈ L, f x ≤ g x) : smL f L ≤ smL g L := by
  induction L with
  | nil => exact Int.le_refl _
  | cons x L ih =>
    have h1 := h x List.mem_cons_self
    have h2 := ih (fun y hy => h y (List.mem_cons_of_mem _ hy))
    rw [smL_cons, smL_cons]
    omega
theorem smL_ge1 {f : Int → Int} {L : List Int} (h : ∀ x ∈ L, 0 ≤ f x) {x : Int} (hx : x ∈ L) : f x ≤ smL f L := by
  induction L with
  | nil => exact absurd hx List.not_mem_nil
  | cons z L ih =>
    have h0 : 0 ≤ smL f L := by
      have := smL_le (f := fun _ => 0) (g := f) (L := L) (fun y hy => h y (List.mem_cons_of_mem _ hy))
      rw [smL_0 L (fun _ _ => rfl)] at this
      exact this
    have h1 := h z List.mem_cons_self
    rw [smL_cons]
    rcases List.mem_cons.mp hx with e | e
    · rw [e]; omega
    · have := ih (fun y hy => h y (List.mem_cons_of_mem _ hy)) e; omega
theorem sR_le {f g : Int → Int} (n : Nat) (h : ∀ l : Int, 0 ≤ l → l < (n : Int) → f l ≤ g l) : sR f n ≤ sR g n := by
  induction n with
  | zero => exact Int.le_refl _
  | succ n ih => simp only [sR]; have := ih (fun l a b => h l a (by omega)); have := h (n : Int) (by omega) (by omega); omega
theorem sR_1 (n : Nat) : sR (fun _ => 1) n = (n : Int) := by
  induction n with
  | zero => rfl
  | succ n ih => simp only [sR]; rw [ih]; omega
theorem gDi_01 (σ : jx_St) (x y d n : Int) : 0 ≤ gDi σ x y d n ∧ gDi σ x y d n ≤ 1 := by
  unfold gDi
  split
  · decide
  · split <;> decide
theorem within_bd {σ : jx_St} (hI : Inv σ) {b x y : Int} (hb : nb b) (hn : σ 0 b ≠ -1) : σ 2 (σ 7 0) + 1 ≤ smL (gD σ (gDi σ x y (diF (σ 0 b) x y))) nds ∧ smL (gD σ (gDi σ x y (diF (σ 0 b) x y))) nds ≤ smL (gD σ (fun _ => 1)) nds := by
  have l0 := hI.1.1.1.2
  rw [all_sum hI, all_sum hI]
  constructor
  · have h1 := sR_1 (σ 2 (σ 7 0) + 1).toNat
    have h2 := sR_le (f := fun _ => 1) (g := fun l => smL (gDi σ x y (diF (σ 0 b) x y)) (row σ l)) (σ 2 (σ 7 0) + 1).toNat (fun l a1 a2 => by
      obtain ⟨n, g1, g2, g3⟩ := near_level hI hb hn (x := x) (y := y) l.toNat (by omega)
      rw [toNat_cast a1] at g1
      have g4 := (mem_row hI.1).mp g1
      have hv := vh_hull hI.1 hI.2.1 g4.1 g2
      have h3 := smL_ge1 (f := gDi σ x y (diF (σ 0 b) x y)) (fun z _ => (gDi_01 σ x y _ z).1) g1
      have e : gDi σ x y (diF (σ 0 b) x y) n = 1 := by
        unfold gDi
        rw [if_neg (by have := hv.1; omega), if_pos g3]
      rw [e] at h3
      exact h3)
    omega
  · exact sR_le _ (fun l _ _ => smL_le (fun z _ => (gDi_01 σ x y _ z).2))
