/-! ===== the property: types, play ===== -/
theorem Dg_split {n : Int} (h : ¬ n < 10) (l : List Int) : l ++ Dg n = l ++ [48 + n / 10] ++ [48 + n % 10] := by
  unfold Dg
  rw [if_neg h, List.append_assoc]
  rfl
theorem q_types {Q : Int → jx_St → jx_St → Prop} {β ρ ψ σ η o : jx_St} {n : Int} {l : List Int} (hI : Inv σ) (hT : Tl o l) (hl : l.length + 2 ≤ 60) (hn : 0 ≤ n ∧ n ≤ 99) (h : ∀ ψ' o', Tl o' (l ++ Dg n) → Q 1 ψ' o') : wp_L_types Q β ρ ψ σ η o n := by
  have hr := rem_pos (a := n) (n := 10) hn.1 (by omega) (by decide) (by decide)
  have hd := div_pos (a := n) (n := 10) hn.1 (by omega) (by decide) (by decide)
  have nR : jx_R n := jx_inR (by omega) (by omega)
  have last : ∀ ψ' o1 (m : List Int), Tl o1 m → m.length < 60 → (∀ o', Tl o' (m ++ [48 + n % 10]) → Q 1 ψ' o') → wp_L_types_31 Q β ρ σ η n ψ' o1 (o1 1 0) := by
    intro ψ' o1 m hm hml hq
    have e := hm.1
    unfold wp_L_types_31
    rw [hr]
    exact q_type (by omega) (by omega) (by omega) (fun o' ht => ce rfl (hq o' (hm.snoc ht)))
  refine q_count hI (R_lit 9 (by decide)) (fun ψ1 => ⟨nR, fun c => ?_, fun c => ?_⟩)
  · exact last ψ1 o l hT (by omega) (fun o' ht => h ψ1 o' (by unfold Dg; rw [if_pos c]; rw [show n % 10 = n by omega] at ht; exact ht))
  · rw [hd]
    have e := hT.1
    refine q_type (by omega) (by omega) (by omega) (fun o1 ht => ce rfl ?_)
    have h1 := hT.snoc ht
    have e1 : o1 1 0 = aK ρ σ η o 9 + 1 := ht.1
    rw [← e1]
    exact last ψ1 o1 _ h1 (by rw [List.length_append]; simp only [List.length_cons, List.length_nil]; omega) (fun o' ht' => h ψ1 o' (by rw [Dg_split c]; exact ht'))
theorem Wt_len {b v w x y : Int} : (Wt b v w x y).length ≤ 16 := by
  have h1 := Dg_len (n := b)
  have h2 := Dg_len (n := v)
  have h3 := Dg_len (n := w)
  have h4 := Dg_len (n := x)
  have h5 := Dg_len (n := y)
  unfold Wt
  simp only [List.length_cons, List.length_append, List.length_nil]
  omega
theorem Wt_mem {b v w x y k : Int} (hb : 0 ≤ b ∧ b ≤ 99) (hv : 0 ≤ v ∧ v ≤ 99) (hw : 0 ≤ w ∧ w ≤ 99) (hx : 0 ≤ x ∧ x ≤ 99) (hy : 0 ≤ y ∧ y ≤ 99) (hk : k ∈ Wt b v w x y) : 32 ≤ k ∧ k ≤ 126 := by
  unfold Wt at hk
  simp only [List.mem_cons, List.mem_append, List.not_mem_nil, or_false] at hk
  rcases hk with e | e | e | e | e | e | e | e | e | e | e
  all_goals first
    | (have := Dg_mem hb.1 hb.2 e; omega)
    | (have := Dg_mem hv.1 hv.2 e; omega)
    | (have := Dg_mem hw.1 hw.2 e; omega)
    | (have := Dg_mem hx.1 hx.2 e; omega)
    | (have := Dg_mem hy.1 hy.2 e; omega)
    | omega
theorem q_play_no {Q : Int → jx_St → jx_St → jx_St → jx_St → jx_St → jx_St → jx_St → jx_St → jx_St → Prop} {β ρ ψ σ η h0 h1 h2 h3 o : jx_St} (hI : Inv σ) (hT : Txo o) {R : Int × Int × Int × Int} (hR : exm (chr o) (o 1 0) 60 0 (dF σ) 0 = R) (hn : R.2.1 ≠ 0) (h : ∀ o', o' 0 = o 0 → o' 1 = o 1 → Q (-1000002) ρ ψ σ η h0 h1 h2 h3 o') : wp_B_play Q β ρ ψ σ η h0 h1 h2 h3 o := by
  refine p_boxSet hI ?_
  rw [bsF_bD]
  refine p_examine hT (fun o' q0 q1 q2 q3 q4 q5 q6 q7 => ?_)
  rw [hR] at q3
  exact ⟨q6, fun z => absurd (q3.symm.trans z) hn, fun _ => h o' q0 q1⟩
theorem q_play_none {Q : Int → jx_St → jx_St → jx_St → jx_St → jx_St → jx_St → jx_St → jx_St → jx_St → Prop} {β ρ ψ σ η h0 h1 h2 h3 o : jx_St} (hI : Inv σ) (hH : HI η h0 h1 h2 h3) (hT : Txo o) (hR : exm (chr o) (o 1 0) 60 0 (dF σ) 0 = (0, 0, 0, 0)) (h : ∀ η' t0 t1 t2 t3 o', o' 0 = o 0 → o' 1 = o 1 → HR σ η h0 h1 h2 h3 η' t0 t1 t2 t3 → Q 0 ρ ψ σ η' t0 t1 t2 t3 o') : wp_B_play Q β ρ ψ σ η h0 h1 h2 h3 o := by
  refine p_boxSet hI ?_
  rw [bsF_bD]
  refine p_examine hT (fun o' q0 q1 q2 q3 q4 q5 q6 q7 => ?_)
  rw [hR] at q3 q5
  dsimp only at q3 q5
  refine ⟨q6, fun _ => q_record hI hH (fun η' t0 t1 t2 t3 hr => ?_), fun z => absurd q3 z⟩
  refine lp_done (fun B => ⟨R_lit 0 (by decide), q7, fun z => absurd z (show ¬ (0 : Int) < o' 5 0 by omega), fun _ => ?_⟩)
  show Q (o' 5 0) _ _ _ _ _ _ _ _ _
  rw [q5]
  exact h η' t0 t1 t2 t3 o' q0 q1 hr
theorem q_play_one {Q : Int → jx_St → jx_St → jx_St → jx_St → jx_St → jx_St → jx_St → jx_St → jx_St → Prop} {β ρ ψ σ η h0 h1 h2 h3 o : jx_St} {b v w : Int} (hI : Inv σ) (hH : HI η h0 h1 h2 h3) (hb : 0 ≤ b ∧ b ≤ 30) (hv : 0 ≤ v ∧ v ≤ 89) (hw : 0 ≤ w ∧ w ≤ 89) (hT : Tl o (Wt b v w (v + 3) (w + 4))) (hn : σ 0 b = -1) (h : ∀ ρ' ψ' τ η' t0 t1 t2 t3 o', o' 0 = o 0 → o' 1 = o 1 → BR (gho σ) σ b (bo v w (v + 3) (w + 4)) ρ' τ → HR σ η h0 h1 h2 h3 η' t0 t1 t2 t3 → Q 1 ρ' ψ' τ η' t0 t1 t2 t3 o') : wp_B_play Q β ρ ψ σ η h0 h1 h2 h3 o := by
  have hX : Txo o := hT.txo (by have := Wt_len (b := b) (v := v) (w := w) (x := v + 3) (y := w + 4); omega) (fun k hk => Wt_mem ⟨hb.1, by omega⟩ ⟨hv.1, by omega⟩ ⟨hw.1, by omega⟩ ⟨by omega, by omega⟩ ⟨by omega, by omega⟩ hk)
  have hc := tl_chr hT
  have hl := hT.1
  have hex := Wt_exm (d := dF σ) hb hv hw
  have hd : dF σ b = 0 := by unfold dF; rw [if_pos hn]
  rw [if_neg (by rw [hd]; decide), ← hl, ← hc] at hex
  obtain ⟨r1, r2, n0, n1, n2, n3, n4⟩ := Wt_read (b := b) (v := v) (w := w) (x := v + 3) (y := w + 4) ⟨hb.1, by omega⟩ ⟨hv.1, by omega⟩ ⟨hw.1, by omega⟩ ⟨by omega, by omega⟩ ⟨by omega, by omega⟩
  rw [← hl, ← hc] at r1
  rw [← hc] at r2 n0 n1 n2 n3 n4
  have hWn : Wn v w (v + 3) (w + 4) := ⟨hv.1, hw.1, by omega, by omega, by omega, by omega⟩
  refine p_boxSet hI ?_
  rw [bsF_bD]
  refine p_examine hX (fun o1 q0 q1 q2 q3 q4 q5 q6 q7 => ?_)
  rw [hex] at q3 q5
  dsimp only at q3 q5
  refine ⟨q6, fun _ => q_record hI hH (fun η' t0 t1 t2 t3 hr => ?_), fun z => absurd q3 z⟩
  refine jx_loop (fun u => (u.2.2.2.2.2 = 0 ∧ u.2.2.1 = σ ∧ u.2.2.2.1 = o1 ∧ u.2.2.2.2.1 = 0) ∨ (u.2.2.2.2.2 = 1 ∧ u.2.2.2.1 0 = o 0 ∧ u.2.2.2.1 1 = o 1 ∧ u.2.2.2.1 5 0 = 1 ∧ BR (gho σ) σ b (bo v w (v + 3) (w + 4)) u.1 u.2.2.1)) (fun u => (2 - u.2.2.2.2.2).toNat) (fun B u hJ hB => ?_) (Or.inl ⟨rfl, rfl, rfl, rfl⟩)
  obtain ⟨ρ1, ψ1, σ1, o2, st, k⟩ := u
  dsimp only at hJ
  rcases hJ with ⟨k0, e1, e2, e3⟩ | ⟨k1, e1, e2, e3, e4⟩
  · subst k0
    subst e1
    subst e2
    subst e3
    refine ⟨R_lit 0 (by decide), q7, fun _ => ?_, fun z => absurd (show (0 : Int) < o2 5 0 by omega) z⟩
    have h2 : Txo o2 := by unfold Txo at hX ⊢; rw [q0, q1]; exact hX
    have ef : chr o2 = chr o := by funext j; unfold chr; rw [q0, q1]
    have h20 : (0 : Int) ≤ o2 1 0 := h2.1
    refine p_read h2 (Int.le_refl 0) h20 (fun o3 s1 s2 s3 s4 => ?_)
    rw [ef] at s2 s3 s4
    have hwP : wP (chr o) 0 = 1 := by unfold wP; rw [r2, if_pos rfl]
    have hwW : wW (chr o) 0 = 5 := wW_5 hwP
    rw [r1] at s3 s4
    have s4' := s4 rfl
    rw [hwW] at s4'
    rw [hwP] at s2
    rw [show (0 : Int) + 1 = 1 from rfl] at s4'
    refine ⟨by show jx_R (o3 3 0); rw [s2]; exact R_lit 1 (by decide), fun z => absurd (s2.symm.trans z) (by decide), fun _ => ?_⟩
    refine p_number (by decide) (p_number (by decide) (p_number (by decide) (p_number (by decide) (p_number (by decide) (p_of ?_)))))
    rw [s4' 0 (by decide) (by decide), s4' 1 (by decide) (by decide), s4' 2 (by decide) (by decide), s4' 3 (by decide) (by decide), s4' 4 (by decide) (by decide), n0, n1, n2, n3, n4]
    refine p_bringIn hI (ag_gho σ1) ⟨hb.1, by omega⟩ hn (vb_bo hWn) (fun ρ' ψ' τ g => ?_)
    refine hB _ (Or.inr ⟨rfl, ?_, ?_, ?_, g⟩) (by dsimp only; decide)
    · exact (s1 0 (by decide) (by decide) (by decide)).trans q0
    · exact (s1 1 (by decide) (by decide) (by decide)).trans q1
    · exact (congrFun (s1 5 (by decide) (by decide) (by decide)) 0).trans q5
  · subst k1
    refine ⟨R_lit 1 (by decide), by show jx_R (o2 5 0); rw [e3]; exact R_lit 1 (by decide), fun z => absurd (show (1 : Int) < o2 5 0 from z) (by omega), fun _ => ?_⟩
    show Q (o2 5 0) _ _ _ _ _ _ _ _ _
    rw [e3]
    exact h _ _ _ _ _ _ _ _ _ e1 e2 e4 hr
