/-! ===== the property: the nodes of a level as a row, places ===== -/
theorem c1 {X Y : Prop} (h : Y) : jx_R 1 ∧ (((1 : Int) = 0 → X) ∧ (¬ (1 : Int) = 0 → Y)) := ⟨jx_inR (by decide) (by decide), fun z => absurd z (by decide), fun _ => h⟩
theorem c0 {X Y : Prop} (h : X) : jx_R 0 ∧ (((0 : Int) = 0 → X) ∧ (¬ (0 : Int) = 0 → Y)) := ⟨jx_inR (by decide) (by decide), fun _ => h, fun z => absurd rfl z⟩
theorem R_lit (k : Int) (h : -2147483648 ≤ k ∧ k ≤ 2147483647) : jx_R k := h
theorem p_upTo_t {Q : Int → Prop} {v t : Int} (h0 : 0 ≤ v) (h1 : v ≤ t) (ht : jx_R t) (h : Q 1) : wp_B_isUpTo Q v t := by
  have vR : jx_R v := jx_inR (by omega) (by have := ht.2; omega)
  exact ⟨vR, fun z => absurd z (by omega), fun _ => ⟨vR, ht, fun _ => h, fun z => absurd h1 z⟩⟩
theorem p_upTo_f {Q : Int → Prop} {v t : Int} (hn : ¬ (0 ≤ v ∧ v ≤ t)) (hv : jx_R v) (ht : jx_R t) (h : Q 0) : wp_B_isUpTo Q v t :=
  ⟨hv, fun _ => h, fun z => ⟨hv, ht, fun y => absurd ⟨by omega, y⟩ hn, fun _ => h⟩⟩
theorem p_isBox_t {Q : Int → Prop} {v : Int} (hb : nb v) (h : Q 1) : wp_B_isBox Q v := p_upTo_t hb.1 (by have := hb.2; omega) (R_lit 30 (by decide)) ⟨Or.inr rfl, h⟩
theorem p_isBox_f {Q : Int → Prop} {v : Int} (hb : ¬ nb v) (hv : jx_R v) (h : Q 0) : wp_B_isBox Q v := p_upTo_f (fun z => hb ⟨z.1, by omega⟩) hv (R_lit 30 (by decide)) ⟨Or.inl rfl, h⟩
theorem Inv.bR {σ : jx_St} (h : Inv σ) {b : Int} (hb : nb b) : jx_R (σ 0 b) := by
  rcases h.1.2.2.2.2.2.2.2.2.2 b hb with z | z
  · rw [z]; exact jx_inR (by decide) (by decide)
  · exact z.R
theorem Inv.vb {σ : jx_St} (h : Inv σ) {b : Int} (hb : nb b) (hn : σ 0 b ≠ -1) : vb (σ 0 b) := (h.1.2.2.2.2.2.2.2.2.2 b hb).resolve_left hn
theorem p_has_t {Q : Int → Prop} {σ : jx_St} {b : Int} (hI : Inv σ) (hb : nb b) (hn : σ 0 b ≠ -1) (h : Q 1) : wp_T_has Q σ b := p_has hb (hI.bR hb) (by rw [if_neg hn]; exact h)
theorem p_has_f {Q : Int → Prop} {σ : jx_St} {b : Int} (hI : Inv σ) (hb : nb b) (hn : σ 0 b = -1) (h : Q 0) : wp_T_has Q σ b := p_has hb (hI.bR hb) (by rw [if_pos hn]; exact h)
def Wn (a b c d : Int) : Prop := 0 ≤ a ∧ 0 ≤ b ∧ a ≤ c ∧ b ≤ d ∧ c ≤ 99 ∧ d ≤ 99
/-- the nodes d levels below the root, as they stand in the rows above -/
def LR (σ : jx_St) : Nat → List Int
  | 0 => [σ 7 0]
  | d + 1 => (LR σ d).flatMap (kids σ)
def row (σ : jx_St) (l : Int) : List Int := if 0 ≤ l ∧ l ≤ σ 2 (σ 7 0) then LR σ (σ 2 (σ 7 0) - l).toNat else []
theorem fs_LR {σ ψ : jx_St} {S : List Int} (hW : Ws σ [] []) (hS : Sn σ ψ (σ 7 0) S) : ∀ d : Nat, (d : Int) ≤ σ 2 (σ 7 0) → FS σ S (σ 2 (σ 7 0) - (d : Int)) = LR σ d := by
  intro d
  induction d with
  | zero => intro _; rw [show σ 2 (σ 7 0) - ((0 : Nat) : Int) = σ 2 (σ 7 0) by omega]; exact fs_top hW hS
  | succ d ih =>
    intro h
    rw [fs_down hW hS (by omega) (by omega), show σ 2 (σ 7 0) - ((d + 1 : Nat) : Int) + 1 = σ 2 (σ 7 0) - (d : Int) by omega, ih (by omega)]
    rfl
theorem fs_row {σ ψ : jx_St} {S : List Int} (hW : Ws σ [] []) (hS : Sn σ ψ (σ 7 0) S) (l : Int) : FS σ S l = row σ l := by
  unfold row
  by_cases c : 0 ≤ l ∧ l ≤ σ 2 (σ 7 0)
  · rw [if_pos c, ← fs_LR hW hS _ (by omega)]
    congr 1
    omega
  · rw [if_neg c]
    refine List.eq_nil_iff_forall_not_mem.mpr (fun x hx => ?_)
    obtain ⟨h1, h2⟩ := mem_FS.mp hx
    obtain ⟨h3, h4⟩ := hS.2.2.2.2.2 x h1
    have := h3.2
    omega
theorem mem_row {σ : jx_St} (hW : Ws σ [] []) {l x : Int} : x ∈ row σ l ↔ lvn σ x ∧ σ 2 x = l := by
  obtain ⟨ψ, S, hS⟩ := sn_exists hW hW.1.1
  rw [← fs_row hW hS, mem_FS]
  exact ⟨fun h => ⟨(hS.2.2.2.2.2 x h.1).1, h.2⟩, fun h => ⟨sn_all hW hS x h.1, h.2⟩⟩
theorem row_nodup {σ : jx_St} (hW : Ws σ [] []) (l : Int) : (row σ l).Nodup := by
  obtain ⟨ψ, S, hS⟩ := sn_exists hW hW.1.1
  rw [← fs_row hW hS]
  exact List.Nodup.sublist List.filter_sublist hS.2.2.2.2.1
theorem row_len {σ : jx_St} (hW : Ws σ [] []) (l : Int) : (row σ l).length ≤ 32 := by
  obtain ⟨ψ, S, hS⟩ := sn_exists hW hW.1.1
  rw [← fs_row hW hS]
  exact fs_len hS
theorem row_top {σ : jx_St} (hW : Ws σ [] []) : row σ (σ 2 (σ 7 0)) = [σ 7 0] := by
  unfold row
  rw [if_pos ⟨hW.1.1.2, Int.le_refl _⟩, show (σ 2 (σ 7 0) - σ 2 (σ 7 0)).toNat = 0 by omega]
  rfl
theorem row_down {σ : jx_St} {l : Int} (l0 : 0 ≤ l) (l1 : l < σ 2 (σ 7 0)) : row σ l = (row σ (l + 1)).flatMap (kids σ) := by
  unfold row
  rw [if_pos ⟨l0, by omega⟩, if_pos ⟨by omega, by omega⟩, show (σ 2 (σ 7 0) - l).toNat = (σ 2 (σ 7 0) - (l + 1)).toNat + 1 by omega]
  rfl
theorem row_out {σ : jx_St} {l : Int} (h : ¬ (0 ≤ l ∧ l ≤ σ 2 (σ 7 0))) : row σ l = [] := if_neg h
def pl (σ : jx_St) (x : Int) : Int := ((row σ (σ 2 x)).idxOf x : Nat)
theorem pl_eq {σ : jx_St} (hW : Ws σ [] []) {l x : Int} {p : Nat} (h : (row σ l)[p]? = some x) : pl σ x = (p : Int) := by
  have e := ((mem_row hW).mp (List.mem_of_getElem? h)).2
  obtain ⟨hp, hx⟩ := List.getElem?_eq_some_iff.mp h
  unfold pl
  rw [e, ← hx, (row_nodup hW l).idxOf_getElem _ hp]
theorem pl_at {σ : jx_St} (hW : Ws σ [] []) {x : Int} (hx : lvn σ x) : 0 ≤ pl σ x ∧ (row σ (σ 2 x))[(pl σ x).toNat]? = some x := by
  have hm := (mem_row hW).mpr ⟨hx, rfl⟩
  refine ⟨by unfold pl; omega, ?_⟩
  unfold pl
  rw [Int.toNat_natCast, List.getElem?_eq_getElem (List.idxOf_lt_length_of_mem hm), List.getElem_idxOf]
theorem pl_bd {σ : jx_St} (hW : Ws σ [] []) {x : Int} (hx : lvn σ x) : 0 ≤ pl σ x ∧ pl σ x < 32 := by
  obtain ⟨h0, h1⟩ := pl_at hW hx
  have h2 := (List.getElem?_eq_some_iff.mp h1).1
  have h3 := row_len hW (σ 2 x)
  omega
theorem pl_FS {σ ψ : jx_St} {S A B : List Int} {x : Int} (hW : Ws σ [] []) (hS : Sn σ ψ (σ 7 0) S) (hs : S = A ++ x :: B) : ((FS σ A (σ 2 x)).length : Int) = pl σ x := by
  have e := fs_row hW hS (σ 2 x)
  rw [hs, FS_app, FS_cons_pos rfl] at e
  refine (pl_eq hW (l := σ 2 x) ?_).symm
  rw [← e]
  simp
theorem q_placeOf {Q : Int → jx_St → Prop} {ψ σ : jx_St} {x : Int} (hI : Inv σ) (hx : lvn σ x) (h : ∀ ψ', Q (pl σ x) ψ') : wp_S_placeOf Q ψ σ x :=
  p_placeOf hI.1 hx (fun ψ' ψs S A B hS hs => by rw [pl_FS hI.1 hS hs]; exact h ψ')
theorem box_home {σ : jx_St} (hI : Inv σ) {b : Int} (hb : nb b) (hn : σ 0 b ≠ -1) : lvn σ (σ 1 b) ∧ σ 2 (σ 1 b) = 0 ∧ b ∈ kids σ (σ 1 b) := by
  have ha : alv σ b 0 := Or.inl ⟨rfl, hb, hn⟩
  have em : hm σ b 0 = σ 1 b := by unfold hm; rw [if_pos rfl]
  have := (hI.1.2.2.2.2.2.2.1 b 0 ha).resolve_left List.not_mem_nil
  rw [em] at this
  exact this
def kix (σ : jx_St) (n x : Int) : Int := ((kids σ n).idxOf x : Nat)
theorem kix_bd {σ : jx_St} {n x : Int} (hx : x ∈ kids σ n) : 0 ≤ kix σ n x ∧ kix σ n x < σ 3 n ∧ th σ n (kix σ n x) = x := by
  have h1 := List.idxOf_lt_length_of_mem hx
  have h2 : (kids σ n)[(kids σ n).idxOf x]? = some x := by rw [List.getElem?_eq_getElem h1, List.getElem_idxOf]
  rw [kids_len] at h1
  rw [kids_get h1] at h2
  unfold kix
  refine ⟨by omega, by omega, Option.some.inj h2⟩
theorem kix_uniq {σ : jx_St} (hI : Inv σ) {n k : Int} (hn : lvn σ n) (k0 : 0 ≤ k) (k1 : k < σ 3 n) : kix σ n (th σ n k) = k := by
  obtain ⟨a, b, c⟩ := kix_bd (th_kids (σ := σ) (n := n) k0 k1)
  exact nodup_th (hI.1.2.2.2.2.2.1 n hn) a b k0 k1 c
theorem q_placeIn {Q : Int → Prop} {σ : jx_St} {n x : Int} (hI : Inv σ) (hn : lvn σ n) (hxR : jx_R x) (hx : x ∈ kids σ n) (h : Q (kix σ n x)) : wp_T_placeIn Q σ n x := by
  obtain ⟨a, b, c⟩ := kix_bd hx
  have s5 := hI.1.sh.1 n hn
  refine p_placeIn hn.1 s5.2.1 hxR (fun j j0 j1 => hI.1.th_R hn j0 j1) a b c (fun j j0 j1 e => ?_) h
  have := nodup_th (hI.1.2.2.2.2.2.1 n hn) j0 (by omega) a b (e.trans c.symm)
  omega
