/-! ===== the property: a copied tree answers as the one it was copied from ===== -/
theorem Er.trans {a b c : jx_St} (h1 : Er a b) (h2 : Er b c) : Er a c := by
  obtain ⟨a1, a2, a3, a4, a5, a6, a7⟩ := h1
  obtain ⟨b1, b2, b3, b4, b5, b6, b7⟩ := h2
  exact ⟨fun i i0 i1 => ⟨(b1 i i0 i1).1.trans (a1 i i0 i1).1, (b1 i i0 i1).2.trans (a1 i i0 i1).2⟩, fun i i0 i1 => ⟨(b2 i i0 i1).1.trans (a2 i i0 i1).1, (b2 i i0 i1).2.1.trans (a2 i i0 i1).2.1, (b2 i i0 i1).2.2.1.trans (a2 i i0 i1).2.2.1, (b2 i i0 i1).2.2.2.trans (a2 i i0 i1).2.2.2⟩, fun i i0 i1 => (b3 i i0 i1).trans (a3 i i0 i1), b4.trans a4, b5.trans a5, b6.trans a6, b7.trans a7⟩
theorem Er.self (a : jx_St) : Er a a := ⟨fun _ _ _ => ⟨rfl, rfl⟩, fun _ _ _ => ⟨rfl, rfl, rfl, rfl⟩, fun _ _ _ => rfl, rfl, rfl, rfl, rfl⟩
theorem er_th {σ τ : jx_St} (e : Er σ τ) {m k : Int} (hm : nd m) (k0 : 0 ≤ k) (k1 : k < 5) : th τ m k = th σ m k := e.2.2.1 _ (by have := hm.1; omega) (by have := hm.2; omega)
theorem er_kids {σ τ : jx_St} (hI : Inv σ) (e : Er σ τ) {m : Int} (hm : lvn σ m) : kids τ m = kids σ m :=
  kids_same ((e.2.1 m hm.1.1 hm.1.2).2.1) (fun k k0 k1 => er_th e hm.1 k0 (by have := (hI.1.sh.1 m hm).2.1; omega))
theorem er_top {σ τ : jx_St} (hI : Inv σ) (e : Er σ τ) : τ 2 (τ 7 0) = σ 2 (σ 7 0) := by
  have r := hI.1.1.1.1
  rw [e.2.2.2.1, (e.2.1 _ r.1 r.2).1]
theorem er_LR {σ τ : jx_St} (hI : Inv σ) (e : Er σ τ) : ∀ d : Nat, (d : Int) ≤ σ 2 (σ 7 0) → LR τ d = LR σ d ∧ ∀ x ∈ LR σ d, lvn σ x ∧ σ 2 x = σ 2 (σ 7 0) - (d : Int) := by
  intro d
  induction d with
  | zero =>
    intro _
    refine ⟨by simp only [LR]; rw [e.2.2.2.1], fun x hx => ?_⟩
    have : x = σ 7 0 := List.mem_singleton.mp hx
    rw [this]
    exact ⟨hI.1.1.1, by omega⟩
  | succ d ih =>
    intro hd
    obtain ⟨h1, h2⟩ := ih (by omega)
    refine ⟨?_, fun x hx => ?_⟩
    · simp only [LR]
      rw [h1]
      have : ∀ L : List Int, (∀ x ∈ L, kids τ x = kids σ x) → L.flatMap (kids τ) = L.flatMap (kids σ) := by
        intro L
        induction L with
        | nil => intro _; rfl
        | cons y L ihL => intro hL; rw [List.flatMap_cons, List.flatMap_cons, hL y List.mem_cons_self, ihL (fun z hz => hL z (List.mem_cons_of_mem _ hz))]
      exact this _ (fun x hx => er_kids hI e (h2 x hx).1)
    · simp only [LR] at hx
      obtain ⟨y, hy, hxy⟩ := List.mem_flatMap.mp hx
      obtain ⟨g1, g2⟩ := h2 y hy
      have g3 := hI.1.kid g1 (by omega) hxy
      exact ⟨g3.1, by omega⟩
theorem er_row {σ τ : jx_St} (hI : Inv σ) (e : Er σ τ) (l : Int) : row τ l = row σ l := by
  unfold row
  rw [er_top hI e]
  by_cases c : 0 ≤ l ∧ l ≤ σ 2 (σ 7 0)
  · rw [if_pos c, if_pos c]; exact (er_LR hI e _ (by omega)).1
  · rw [if_neg c, if_neg c]
theorem er_pl {σ τ : jx_St} (hI : Inv σ) (e : Er σ τ) {x : Int} (hx : nd x) : pl τ x = pl σ x := by
  unfold pl
  rw [(e.2.1 x hx.1 hx.2).1, er_row hI e]
theorem er_aB {σ τ : jx_St} (hI : Inv σ) (e : Er σ τ) (b k : Int) : aB τ b k = aB σ b k := by
  unfold aB
  by_cases c : b < 0 ∨ 31 ≤ b ∨ k < 0 ∨ 5 < k
  · rw [if_pos c, if_pos c]
  · rw [if_neg c, if_neg c]
    have hb : nb b := ⟨by omega, by omega⟩
    obtain ⟨e0, e1⟩ := e.1 b hb.1 hb.2
    rw [e0, e1]
    by_cases d : σ 0 b = -1
    · rw [if_pos d, if_pos d]
    · rw [if_neg d, if_neg d]
      have hh := box_home hI hb d
      unfold kix
      rw [er_pl hI e hh.1.1, er_kids hI e hh.1]
theorem orL_same {f g : Int → Int} : ∀ m : Nat, (∀ j : Int, 0 ≤ j → j < (m : Int) → f j = g j) → orL f m = orL g m := by
  intro m
  induction m with
  | zero => intro _; rfl
  | succ m ih =>
    intro h
    simp only [orL]
    rw [ih (fun j j0 j1 => h j j0 (by omega)), h (m : Int) (by omega) (by omega)]
theorem er_aN {σ τ : jx_St} (hI : Inv σ) (e : Er σ τ) (l p k : Int) : aN τ l p k = aN σ l p k := by
  unfold aN
  by_cases c : l < 0 ∨ p < 0 ∨ k < 0 ∨ 5 < k
  · rw [if_pos c, if_pos c]
  · rw [if_neg c, if_neg c, er_row hI e]
    cases hr : (row σ l)[p.toNat]? with
    | none => rfl
    | some x =>
      dsimp only
      have hx := (mem_row hI.1).mp (List.mem_of_getElem? hr)
      have s5 := hI.1.sh.1 x hx.1
      obtain ⟨_, e3, e4, _⟩ := e.2.1 x hx.1.1.1 hx.1.1.2
      rw [e3, e4]
      have eo : orL (th τ x) (σ 3 x).toNat = orL (th σ x) (σ 3 x).toNat := orL_same _ (fun j j0 j1 => er_th e hx.1.1 j0 (by omega))
      rw [eo]
      by_cases l0 : l = 0
      · rw [if_pos l0, if_pos l0]
      · rw [if_neg l0, if_neg l0, er_th e hx.1.1 (Int.le_refl 0) (by decide)]
        have h1 : 1 ≤ σ 3 x := ((hI.1.2.2.2.1 x hx.1).2.2.resolve_left List.not_mem_nil).2 (by omega)
        have := (hI.1.kid hx.1 (by omega) (th_kids (Int.le_refl 0) (by omega))).1
        rw [er_pl hI e this.1]
theorem ps_same {c d : Int → Int → Int} : ∀ L : List Int, (∀ x ∈ L, ∀ y ∈ L, c x y = d x y) → ps c L = ps d L := by
  intro L
  induction L with
  | nil => intro _; rfl
  | cons x L ih =>
    intro h
    simp only [ps]
    rw [ih (fun a ha b hb => h a (List.mem_cons_of_mem _ ha) b (List.mem_cons_of_mem _ hb)), smL_congr (fun y hy => h x List.mem_cons_self y (List.mem_cons_of_mem _ hy))]
theorem er_pr {σ τ : jx_St} (hI : Inv σ) (e : Er σ τ) (l : Int) : ps (cN τ) (row τ l) = ps (cN σ) (row σ l) := by
  rw [er_row hI e]
  refine ps_same _ (fun x hx y hy => ?_)
  have a := ((mem_row hI.1).mp hx).1.1
  have b := ((mem_row hI.1).mp hy).1.1
  unfold cN
  rw [(e.2.1 x a.1 a.2).2.2.1, (e.2.1 y b.1 b.2).2.2.1]
theorem er_aV {σ τ : jx_St} (hI : Inv σ) (e : Er σ τ) (l : Int) : aV τ l = aV σ l := by
  unfold aV
  rw [er_top hI e, er_pr hI e]
theorem sN_same {c d : Nat → Nat} (h : ∀ j, c j = d j) : ∀ k, sN c k = sN d k := by
  intro k
  induction k with
  | zero => rfl
  | succ k ih => simp only [sN]; rw [ih, h]
theorem er_nBx {σ τ : jx_St} (e : Er σ τ) : nBx τ = nBx σ := by
  unfold nBx
  rw [sN_same (c := cB τ) (d := cB σ) (fun j => by
    unfold cB
    by_cases c : j < 31
    · rw [(e.1 (j : Int) (by omega) (by omega)).1]
    · rw [if_neg (fun z => c z.1), if_neg (fun z => c z.1)])]
theorem gD_same {σ τ : jx_St} {g h : Int → Int} (e : Er σ τ) (hg : ∀ n, nd n → g n = h n) : smL (gD τ g) nds = smL (gD σ h) nds :=
  smL_congr (fun x hx => by
    have hn := mem_nds.mp hx
    unfold gD
    rw [(e.2.1 x hn.1 hn.2).1, hg x hn])
theorem er_aK {σ τ : jx_St} (hI : Inv σ) (e : Er σ τ) {a b c a' b' c' : jx_St} {k : Int} (h : ¬ (k = 4 ∨ k = 8 ∨ k = 9)) : aK a τ b c k = aK a' σ b' c' k := by
  have h4 : k ≠ 4 := fun z => h (Or.inl z)
  have h8 : k ≠ 8 := fun z => h (Or.inr (Or.inl z))
  have h9 : k ≠ 9 := fun z => h (Or.inr (Or.inr z))
  have g1 := gD_same (g := fun _ => 1) (h := fun _ => 1) e (fun n hn => rfl)
  have g2 := gD_same (g := gLe τ) (h := gLe σ) e (fun n hn => by unfold gLe; rw [(e.2.1 n hn.1 hn.2).1])
  have g3 := gD_same (g := gAr τ) (h := gAr σ) e (fun n hn => by unfold gAr; rw [(e.2.1 n hn.1 hn.2).1, (e.2.1 n hn.1 hn.2).2.2.1])
  unfold aK
  rw [if_neg h4, if_neg h8, if_neg h9, if_neg h4, if_neg h8, if_neg h9, er_nBx e, er_top hI e, g1, g2, g3, e.2.2.2.2.1, e.2.2.2.2.2.1, e.2.2.2.2.2.2]
theorem pF_same {f g : Int → Int} : ∀ (n : Nat) (a : Int64), (∀ j : Int, 0 ≤ j → j < (n : Int) → f j = g j) → pF f n a = pF g n a := by
  intro n
  induction n with
  | zero => intro a _; rfl
  | succ n ih => intro a h; simp only [pF]; rw [ih a (fun j j0 j1 => h j j0 (by omega)), h (n : Int) (by omega) (by omega)]
theorem er_prV {σ τ : jx_St} (hI : Inv σ) (e : Er σ τ) : prV τ = prV σ := by
  have b1 : ∀ (n : Nat) (a : Int64), pB τ n a = pB σ n a := by
    intro n
    induction n with
    | zero => intro a; rfl
    | succ n ih => intro a; simp only [pB]; rw [ih a]; exact pF_same _ _ (fun j _ _ => er_aB hI e _ _)
  have b2 : ∀ (l : Int) (n : Nat) (a : Int64), pP τ l n a = pP σ l n a := by
    intro l n
    induction n with
    | zero => intro a; rfl
    | succ n ih => intro a; simp only [pP]; rw [ih a]; exact pF_same _ _ (fun j _ _ => er_aN hI e _ _ _)
  have b3 : ∀ (n : Nat) (a : Int64), pL τ n a = pL σ n a := by
    intro n
    induction n with
    | zero => intro a; rfl
    | succ n ih => intro a; simp only [pL]; rw [ih a, er_row hI e, b2, er_aV hI e]
  unfold prV
  rw [b3, b1, er_top hI e, pF_same 11 7 (g := fc σ) (fun j _ _ => by
    unfold fc
    by_cases c : j = 4 ∨ j = 8 ∨ j = 9
    · rw [if_pos c, if_pos c]
    · rw [if_neg c, if_neg c]; exact er_aK hI e c)]
/-! the history -/
def HI (η h0 h1 h2 h3 : jx_St) : Prop := (0 ≤ η 1 0 ∧ η 1 0 < 4) ∧ (0 ≤ η 2 0 ∧ η 2 0 ≤ 4) ∧ ∀ i, 0 ≤ i → i < η 2 0 → Inv (hst h0 h1 h2 h3 ((η 1 0 + i) % 4))
def tpS (η h0 h1 h2 h3 : jx_St) : jx_St := hst h0 h1 h2 h3 ((η 1 0 + (η 2 0 - 1)) % 4)
def scS (η h0 h1 h2 h3 : jx_St) : jx_St := hst h0 h1 h2 h3 ((η 1 0 + (η 2 0 - 2)) % 4)
def HR (σ η h0 h1 h2 h3 η' t0 t1 t2 t3 : jx_St) : Prop := HI η' t0 t1 t2 t3 ∧ η' 2 0 = (if η 2 0 < 4 then η 2 0 + 1 else 4) ∧ Er σ (tpS η' t0 t1 t2 t3) ∧ (1 ≤ η 2 0 → scS η' t0 t1 t2 t3 = tpS η h0 h1 h2 h3)
theorem q_record {Q : jx_St → jx_St → jx_St → jx_St → jx_St → Prop} {σ η h0 h1 h2 h3 : jx_St} (hI : Inv σ) (hH : HI η h0 h1 h2 h3) (h : ∀ η' t0 t1 t2 t3, HR σ η h0 h1 h2 h3 η' t0 t1 t2 t3 → Q η' t0 t1 t2 t3) : wp_H_record Q σ η h0 h1 h2 h3 := by
  obtain ⟨⟨a0, a1⟩, ⟨a2, a3⟩, a4⟩ := hH
  refine p_recordS a0 a1 a2 a3 (fun η' t0 t1 t2 t3 hC => h _ _ _ _ _ ?_)
  obtain ⟨o, c, τ, ⟨p0, p1, p2, p3⟩, w1, w2, ht, hj, p6, p7, p8⟩ := hC
  refine ⟨⟨⟨by omega, by omega⟩, ⟨by omega, by omega⟩, fun i i0 i1 => ?_⟩, by rw [w2]; exact p7, ?_, fun h1 => ?_⟩
  · rw [w1, hj _ (by omega) (by omega)]
    by_cases e : i = c
    · rw [e, if_pos rfl]; exact inv_er hI ht
    · rw [if_neg (by omega)]
      obtain ⟨i', x0, x1, x2⟩ := p8 i i0 (by omega)
      rw [← x2]
      exact a4 i' x0 x1
  · unfold tpS
    rw [w1, w2, hj _ (by omega) (by omega), if_pos (by congr 1; omega)]
    exact ht
  · unfold scS tpS
    rw [w1, w2, hj _ (by omega) (by omega), if_neg (by split at p7 <;> omega)]
    congr 1
    omega
theorem q_undo_no {Q : Int → jx_St → jx_St → Prop} {sB σ η h0 h1 h2 h3 : jx_St} (hn : η 2 0 = 0) (h : Q (-1000002) σ η) : wp_B_undo Q sB σ η h0 h1 h2 h3 :=
  ⟨by rw [hn]; exact R_lit 0 (by decide), fun _ => h, fun z => absurd hn z⟩
theorem q_undo {Q : Int → jx_St → jx_St → Prop} {sB σ η h0 h1 h2 h3 : jx_St} (hH : HI η h0 h1 h2 h3) (hn : η 2 0 ≠ 0) (h : ∀ σ', Er (tpS η h0 h1 h2 h3) σ' → Q (η 2 0 - 1) σ' (jx_su η 2 0 (η 2 0 - 1))) : wp_B_undo Q sB σ η h0 h1 h2 h3 := by
  obtain ⟨⟨a0, a1⟩, ⟨a2, a3⟩, a4⟩ := hH
  have h' : ∀ σ', Er (tpS η h0 h1 h2 h3) σ' → Q (jx_su η 2 0 (η 2 0 - 1) 2 0) σ' (jx_su η 2 0 (η 2 0 - 1)) := fun σ' hσ => by rw [jx_su_eq]; exact h σ' hσ
  refine ⟨jx_inR (by omega) (by omega), fun z => absurd z hn, fun _ => p_stateAt (by omega) (by omega) a0 a1 ?_⟩
  have sb : 0 ≤ (η 1 0 + (η 2 0 - 1)) % 4 ∧ (η 1 0 + (η 2 0 - 1)) % 4 < 4 := by omega
  unfold tpS at h'
  generalize (η 1 0 + (η 2 0 - 1)) % 4 = s at h' sb
  unfold hst at h'
  refine ⟨fun e => absurd e (by omega), fun e => p_copy (fun τ ht => h' τ ?_), fun e => p_copy (fun τ ht => h' τ ?_), fun e => p_copy (fun τ ht => h' τ ?_), fun e => p_copy (fun τ ht => h' τ ?_)⟩
  · rw [if_pos e]; exact ht
  · rw [if_neg (by omega), if_pos e]; exact ht
  · rw [if_neg (by omega), if_neg (by omega), if_pos e]; exact ht
  · rw [if_neg (by omega), if_neg (by omega), if_neg (by omega)]; exact ht
theorem HI.less {η h0 h1 h2 h3 : jx_St} (h : HI η h0 h1 h2 h3) (hn : η 2 0 ≠ 0) : HI (jx_su η 2 0 (η 2 0 - 1)) h0 h1 h2 h3 ∧ tpS (jx_su η 2 0 (η 2 0 - 1)) h0 h1 h2 h3 = scS η h0 h1 h2 h3 := by
  obtain ⟨⟨a0, a1⟩, ⟨a2, a3⟩, a4⟩ := h
  unfold HI tpS scS
  rw [jx_su_eq, jx_su_ne (by decide)]
  exact ⟨⟨⟨a0, a1⟩, ⟨by omega, by omega⟩, fun i i0 i1 => a4 i i0 (by omega)⟩, by congr 1; omega⟩
theorem HI.top {η h0 h1 h2 h3 : jx_St} (h : HI η h0 h1 h2 h3) (hn : η 2 0 ≠ 0) : Inv (tpS η h0 h1 h2 h3) := h.2.2 (η 2 0 - 1) (by have := h.2.1; omega) (by omega)
