/-! ===== the property: what a putting and a taking out bring ===== -/
/-- a reference's row that agrees with a tree -/
def gho (σ : jx_St) : jx_St := fun z j => if z = 0 then (if j = 0 then σ 7 0 else if j = 1 then σ 8 0 else if j = 2 then σ 9 0 else if j = 3 then σ 10 0 else if j < 35 then (if σ 0 (j - 4) = -1 then 0 else 1) else if j < 159 then bs (σ 0 ((j - 35) / 4)) ((j - 35) % 4) else if j < 199 then (if j - 159 < 32 then σ 2 (j - 159) else -1) else if j < 239 then σ 3 (j - 199) else σ 6 (j - 239)) else 0
theorem gho_3 (σ : jx_St) : σ 10 0 = gho σ 0 3 := rfl
theorem ag_gho (σ : jx_St) : Ag σ (gho σ) := by
  refine ⟨rfl, fun n n0 n1 => ?_, fun n hn => ?_, fun n k hn k0 k1 => ?_, fun b hb => ?_, fun b k hb hn k0 k1 => ?_, rfl, rfl⟩
  · show (if _ then _ else _) = _
    rw [if_pos rfl, if_neg (by omega), if_neg (by omega), if_neg (by omega), if_neg (by omega), if_neg (by omega), if_neg (by omega), if_pos (by omega), show 159 + n - 159 = n by omega]
  · have h0 := hn.1.1
    have h1 := hn.1.2
    show (if _ then _ else _) = _
    rw [if_pos rfl, if_neg (by omega), if_neg (by omega), if_neg (by omega), if_neg (by omega), if_neg (by omega), if_neg (by omega), if_neg (by omega), if_pos (by omega), show 199 + n - 199 = n by omega]
  · have h0 := hn.1.1
    have h1 := hn.1.2
    show (if _ then _ else _) = _
    rw [if_pos rfl, if_neg (by omega), if_neg (by omega), if_neg (by omega), if_neg (by omega), if_neg (by omega), if_neg (by omega), if_neg (by omega), if_neg (by omega), show 239 + 5 * n + k - 239 = n * 5 + k by omega]
    rfl
  · have h0 := hb.1
    have h1 := hb.2
    show (if _ then _ else _) = _
    rw [if_pos rfl, if_neg (by omega), if_neg (by omega), if_neg (by omega), if_neg (by omega), if_pos (by omega), show 4 + b - 4 = b by omega]
  · have h0 := hb.1
    have h1 := hb.2
    show (if _ then _ else _) = _
    rw [if_pos rfl, if_neg (by omega), if_neg (by omega), if_neg (by omega), if_neg (by omega), if_neg (by omega), if_pos (by omega), show (35 + 4 * b + k - 35) / 4 = b by omega, show (35 + 4 * b + k - 35) % 4 = k by omega]
def BR (μ σ : jx_St) (b v : Int) (ρ τ : jx_St) : Prop := Inv τ ∧ τ 0 = jx_su σ 0 b v 0 ∧ τ 10 = σ 10 ∧ (0 ≤ ρ 8 0 ∧ ρ 8 0 ≤ 4) ∧ τ 8 0 = σ 8 0 + ρ 8 0 ∧ CQ ρ τ ∧ ∃ μ', Ag τ μ' ∧ Cr ρ μ' ∧ ∀ Qm : jx_St → Prop, Qm μ' → wp_M_putsBox Qm μ b (bs v 0) (bs v 1) (bs v 2) (bs v 3)
theorem p_bringIn {Q : jx_St → jx_St → jx_St → Prop} {ρ ψ σ μ : jx_St} {b v : Int} (hI : Inv σ) (hA : Ag σ μ) (hb : nb b) (h0 : σ 0 b = -1) (hv : vb v) (h : ∀ ρ' ψ' τ, BR μ σ b v ρ' τ → Q ρ' ψ' τ) : wp_C_bringIn Q ρ ψ σ b v :=
  lock_bringIn hI hA hb h0 hv (fun ρ' ψ' τ μ' g1 g2 g3 g4 g5 g6 g7 g8 => h ρ' ψ' τ ⟨g1, g3, g4, ⟨g5.2.1, g6⟩, g7.2.1, g7.2.2, μ', g2, g5, g8⟩)
theorem det_puts {μ μ1 μ2 : jx_St} {b x y z w : Int} (h1 : ∀ Qm : jx_St → Prop, Qm μ1 → wp_M_putsBox Qm μ b x y z w) (h2 : ∀ Qm : jx_St → Prop, Qm μ2 → wp_M_putsBox Qm μ b x y z w) : μ1 = μ2 :=
  ex_M_putsBox (cj_M_putsBox (Q3 := fun _ => μ1 = μ2) (h1 (fun s => s = μ1) rfl) (h2 (fun s => s = μ2) rfl) (fun s e1 e2 => e1.symm.trans e2)) (fun _ h => h)
theorem BR.same {μ σ1 σ2 ρ1 ρ2 τ1 τ2 : jx_St} {b v : Int} (h1 : BR μ σ1 b v ρ1 τ1) (h2 : BR μ σ2 b v ρ2 τ2) : ρ1 8 0 = ρ2 8 0 ∧ ∃ μ', Ag τ1 μ' ∧ Ag τ2 μ' := by
  obtain ⟨_, _, _, _, _, _, μ1, a1, a2, a3⟩ := h1
  obtain ⟨_, _, _, _, _, _, μ2, b1, b2, b3⟩ := h2
  have e := det_puts a3 b3
  subst e
  exact ⟨a2.1.symm.trans b2.1, μ1, a1, b1⟩
theorem det_ovl {μ b1 b2 : jx_St} {l v1 v2 : Int} (h1 : ∀ Q : Int → jx_St → Prop, Q v1 b1 → wp_M_overlapsOf Q μ l) (h2 : ∀ Q : Int → jx_St → Prop, Q v2 b2 → wp_M_overlapsOf Q μ l) : v1 = v2 :=
  ex_M_overlapsOf (cj_M_overlapsOf (Q3 := fun _ _ => v1 = v2) (h1 (fun v _ => v = v1) rfl) (h2 (fun v _ => v = v2) rfl) (fun v _ e1 e2 => e1.symm.trans e2)) (fun _ _ h => h)
theorem same_obs {τ1 τ2 μ : jx_St} (i1 : Inv τ1) (i2 : Inv τ2) (a1 : Ag τ1 μ) (a2 : Ag τ2 μ) : τ1 2 (τ1 7 0) = τ2 2 (τ2 7 0) ∧ ps (cN τ1) (row τ1 0) = ps (cN τ2) (row τ2 0) := by
  have r := i1.1.1.1.1
  have e7 : τ1 7 0 = τ2 7 0 := a1.1.symm.trans a2.1
  constructor
  · have h1 := a1.2.1 (τ1 7 0) r.1 (by have := r.2; omega)
    have h2 := a2.2.1 (τ1 7 0) r.1 (by have := r.2; omega)
    rw [if_pos r.2] at h1 h2
    rw [← h1, h2, e7]
  · obtain ⟨ψ1, S1, hS1⟩ := sn_exists i1.1 i1.1.1.1
    obtain ⟨ψ2, S2, hS2⟩ := sn_exists i2.1 i2.1.1.1
    obtain ⟨b1, _, g1⟩ := g_overlapsOf i1.1 i1.2.1 a1 hS1 ⟨Int.le_refl 0, i1.1.1.1.2⟩
    obtain ⟨b2, _, g2⟩ := g_overlapsOf i2.1 i2.2.1 a2 hS2 ⟨Int.le_refl 0, i2.1.1.1.2⟩
    have e := det_ovl g1 g2
    rw [fs_row i1.1 hS1, fs_row i2.1 hS2] at e
    exact e
def TR (μ σ : jx_St) (b : Int) (ρ τ : jx_St) : Prop := Inv τ ∧ τ 0 = jx_su σ 0 b (-1) 0 ∧ (0 ≤ ρ 8 0 ∧ ρ 8 0 ≤ 32) ∧ ∃ μ', Ag τ μ' ∧ τ 10 0 = μ' 0 3 ∧ Cr ρ μ' ∧ ∀ Qm : jx_St → Prop, Qm μ' → wp_M_takesBox Qm μ b
theorem p_takeOut {Q : jx_St → jx_St → jx_St → Prop} {ρ ψ σ μ : jx_St} {b : Int} (hI : Inv σ) (hA : Ag σ μ) (h3 : σ 10 0 = μ 0 3) (hb : nb b) (h0 : σ 0 b ≠ -1) (h : ∀ ρ' ψ' τ, TR μ σ b ρ' τ → Q ρ' ψ' τ) : wp_C_takeOut Q ρ ψ σ b :=
  lock_takeOut hI hA h3 hb h0 (fun ρ' ψ' τ μ' g1 g2 g3 g4 g5 g6 _ g8 => h ρ' ψ' τ ⟨g1, g3, ⟨g5.2.1, g6⟩, μ', g2, g4, g5, g8⟩)
theorem det_takes {μ μ1 μ2 : jx_St} {b : Int} (h1 : ∀ Qm : jx_St → Prop, Qm μ1 → wp_M_takesBox Qm μ b) (h2 : ∀ Qm : jx_St → Prop, Qm μ2 → wp_M_takesBox Qm μ b) : μ1 = μ2 :=
  ex_M_takesBox (cj_M_takesBox (Q3 := fun _ => μ1 = μ2) (h1 (fun s => s = μ1) rfl) (h2 (fun s => s = μ2) rfl) (fun s e1 e2 => e1.symm.trans e2)) (fun _ h => h)
theorem TR.same {μ σ1 σ2 ρ1 ρ2 τ1 τ2 : jx_St} {b : Int} (h1 : TR μ σ1 b ρ1 τ1) (h2 : TR μ σ2 b ρ2 τ2) : ρ1 8 0 = ρ2 8 0 ∧ τ1 10 0 = τ2 10 0 ∧ ∃ μ', Ag τ1 μ' ∧ Ag τ2 μ' := by
  obtain ⟨_, _, _, μ1, a1, a2, a3, a4⟩ := h1
  obtain ⟨_, _, _, μ2, b1, b2, b3, b4⟩ := h2
  have e := det_takes a4 b4
  subst e
  exact ⟨a3.1.symm.trans b3.1, a2.trans b2.symm, μ1, a1, b1⟩
/-! a leaf that isn't full -/
theorem lgs_same {hs xs hs' xs' : Int → Int} {b : Int} (n : Nat) (h : ∀ k : Int, 0 ≤ k → k < (n : Int) → hs k = hs' k ∧ xs k = xs' k) : lgs hs xs b n = lgs hs' xs' b n := by
  induction n with
  | zero => rfl
  | succ n ih =>
    simp only [lgs]
    rw [ih (fun k k0 k1 => h k k0 (by omega)), (h (n : Int) (by omega) (by omega)).1, (h (n : Int) (by omega) (by omega)).2]
theorem dsc_same {σ τ : jx_St} {b l : Int} (e2 : τ 2 = σ 2) (e3 : τ 3 = σ 3) (e4 : τ 4 = σ 4) (e6 : τ 6 = σ 6) : ∀ (k : Nat) (n : Int), dsc τ b l k n = dsc σ b l k n := by
  intro k
  induction k with
  | zero => intro n; rfl
  | succ k ih =>
    intro n
    simp only [dsc]
    have e : lgF τ n b = lgF σ n b := by
      unfold lgF th
      rw [e3, e4, e6]
    rw [e2, e, ih]
def EZ (σ : jx_St) (b n : Int) (ρ τ : jx_St) : Prop := ρ 8 0 = 0 ∧ τ 9 = σ 9 ∧ τ 7 = σ 7 ∧ τ 2 = σ 2 ∧ τ 1 b = n ∧ (∀ m, lvn σ m → 0 < σ 2 m → kids τ m = kids σ m)
theorem easy_bringIn {Q : jx_St → jx_St → jx_St → Prop} {ρ ψ σ : jx_St} {b v n : Int} (hI : Inv σ) (hb : nb b) (h0 : σ 0 b = -1) (hv : vb v) (hn : n = dsc σ v 0 8 (σ 7 0)) (h4 : σ 3 n < 4) (h : ∀ ρ' ψ' τ, EZ σ b n ρ' τ → Q ρ' ψ' τ) : wp_C_bringIn Q ρ ψ σ b v := by
  obtain ⟨hW, hH, hAl, hR⟩ := id hI
  have hv1 := hv.1
  have hWb := ws_box hW hb h0 hv
  have hHb : Hs (jx_su σ 0 b v) [] := hs_box hW hH (fun m hm hl hk => by
    rcases (hW.2.2.2.2.1 m b hm hk).1 with ⟨_, _, z⟩ | ⟨z, _⟩
    · exact z h0
    · omega)
  have en : ∀ q, q ≠ 0 → jx_su σ 0 b v q = σ q := fun q h => by funext i; exact jx_su_ne h
  have e0 : jx_su σ 0 b v 0 b = v := jx_su_eq
  generalize hσ1 : jx_su σ 0 b v = σ1 at hWb hHb en e0
  have h1z : ∀ z, lvn σ1 z → 0 < σ1 2 z → 1 ≤ σ1 3 z := fun z hz z0 => ((hWb.2.2.2.1 z hz).2.2.resolve_left List.not_mem_nil).2 z0
  have edsc : dsc σ1 v 0 8 (σ1 7 0) = n := by rw [hn, dsc_same (en 2 (by decide)) (en 3 (by decide)) (en 4 (by decide)) (en 6 (by decide)), en 7 (by decide)]
  have l3 := hWb.1.2.1
  obtain ⟨n1, n2⟩ := dsc_ok (b := v) hWb.sh h1z (Int.le_refl 0) 8 (σ1 7 0) hWb.1.1 hWb.1.1.2 (by show σ1 2 (σ1 7 0) - 0 ≤ 8; omega)
  rw [edsc] at n1 n2
  have s5 := hWb.sh.1 n n1
  have h4' : σ1 3 n < 4 := by rw [en 3 (by decide)]; exact h4
  refine p_setBox hb ?_
  rw [hσ1]
  have b4 : jx_su (jx_su (jx_su ρ 8 0 0) 5 0 0) 4 0 0 4 0 = 0 := jx_su_eq
  have b8 : jx_su (jx_su (jx_su ρ 8 0 0) 5 0 0) 4 0 0 8 0 = 0 := by rw [jx_su_ne (by decide), jx_su_ne (by decide)]; exact jx_su_eq
  refine p_await (by rw [b4]; decide) (by rw [b4]; decide) (fun ρ1 k1 e4 e2 e3 _ => ?_)
  rw [b4] at e4 e2 e3
  have r8 : ρ1 8 0 = 0 := by rw [k1 8 (by decide) (by decide) (by decide), b8]
  refine jx_loop (fun w => (w.2.2.2 = 0 ∧ w.1 = ρ1 ∧ w.2.2.1 = σ1) ∨ (w.2.2.2 = 1 ∧ w.1 4 0 ≤ 0 ∧ jx_R (w.1 4 0) ∧ EZ σ b n w.1 w.2.2.1)) (fun w => (2 - w.2.2.2).toNat) (fun B w hJ hB => ?_) (Or.inl ⟨rfl, rfl, rfl⟩)
  obtain ⟨ρ2, ψ2, σ2, t⟩ := w
  dsimp only at hJ
  show wp_C_insert_18 _ b 0 B ρ2 ψ2 σ2 t
  rcases hJ with ⟨t0, w1, w2⟩ | ⟨t1, w1, w2, w3⟩
  · subst w1
    subst w2
    subst t0
    have s4 : jx_su ρ2 4 0 (ρ2 4 0 - 1) 4 0 = 0 := by rw [jx_su_eq, e4]; rfl
    have a2 : jx_at 64 (jx_su ρ2 4 0 (ρ2 4 0 - 1) 2) 0 = b := by rw [jx_at_in (by decide) (by decide), jx_su_ne (by decide)]; exact e2
    have a3 : jx_at 64 (jx_su ρ2 4 0 (ρ2 4 0 - 1) 3) 0 = 0 := by rw [jx_at_in (by decide) (by decide), jx_su_ne (by decide)]; exact e3
    refine ⟨R_lit 0 (by decide), fun _ => ⟨by rw [e4]; exact R_lit _ (by decide), fun z => absurd z (by rw [e4]; decide), fun _ => ?_⟩, fun z => absurd (show (0 : Int) < 64 by decide) z⟩
    rw [s4, a2, a3]
    refine ⟨R_lit 0 (by decide), R_lit 0 (by decide), p_hull (R_lit 0 (by decide)) (by unfold tv; rw [if_pos rfl]; exact hb) ?_⟩
    rw [hv_0, e0]
    refine p_nodeFor hWb.sh (fun z hz => hHb.1 z hz.1) h1z hWb.1.1 ⟨Int.le_refl 0, hWb.1.1.2⟩ (Or.inr hv) ?_
    rw [edsc]
    refine p_sizeOf n1.1 (p_add n1.1 ⟨s5.1, by omega⟩ ⟨s5.1, Int.le_refl _⟩ (hWb.R2 n1) (by rw [n2]; unfold tv; rw [if_pos rfl]; exact hb) ?_)
    have hWa : Ws (adF σ2 n (σ2 3 n) b) [] [] := ws_attach hWb n1 n2 (by omega) ⟨s5.1, Int.le_refl _⟩
    have hHa := hs_ad (p := σ2 3 n) (x := b) hWb hHb n1 (by omega) ⟨s5.1, Int.le_refl _⟩
    have hna : lvn (adF σ2 n (σ2 3 n) b) n := ⟨n1.1, by rw [adF_2]; exact n1.2⟩
    refine p_refresh2 (t := -1) hWa hHa hna (fun z hz => Or.inl (List.mem_singleton.mp hz)) (fun σ3 t1 t2 t3 => ?_)
    have x3 : σ3 3 n = σ2 3 n + 1 := by rw [t1 3 (by decide)]; simp [adF]
    have sR3 : jx_R (σ3 3 n) := jx_inR (by omega) (by omega)
    have s43 : σ3 3 n ≤ 4 := by omega
    refine lp_done (fun B' => ⟨R_lit 0 (by decide), fun _ => p_sizeOf n1.1 ⟨sR3, fun _ => ?_, fun z => absurd s43 z⟩, fun z => absurd (show (0 : Int) < 8 by decide) z⟩)
    refine hB _ (Or.inr ⟨rfl, by dsimp only; rw [s4]; exact Int.le_refl 0, by dsimp only; rw [s4]; exact R_lit 0 (by decide), ?_, ?_, ?_, ?_, ?_, fun m hm hl => ?_⟩) (by dsimp only; omega)
    · dsimp only; rw [jx_su_ne (by decide)]; exact r8
    · dsimp only; rw [t1 9 (by decide)]; funext i; rw [adF_n (by decide) (by decide) (by decide) (by decide), en 9 (by decide)]
    · dsimp only; rw [t1 7 (by decide)]; funext i; rw [adF_n (by decide) (by decide) (by decide) (by decide), en 7 (by decide)]
    · dsimp only; rw [t1 2 (by decide)]; funext i; rw [adF_2, en 2 (by decide)]
    · dsimp only
      rw [t1 1 (by decide)]
      simp only [adF]
      rw [if_neg (by decide), if_neg (by decide), if_pos (by rw [if_pos n2]), if_pos trivial]
    · dsimp only
      have hm1 : lvn σ2 m := ⟨hm.1, by rw [en 2 (by decide)]; exact hm.2⟩
      have hne : m ≠ n := fun e => by
        rw [e] at hl
        rw [en 2 (by decide)] at n2
        omega
      have s6 := hWb.sh.1 m hm1
      have ek : kids σ3 m = kids (adF σ2 n (σ2 3 n) b) m := kids_same (by rw [t1 3 (by decide)]) (fun k _ _ => by unfold th; rw [t1 6 (by decide)])
      rw [ek, kids_ad_ne hne s6.2.1 (by omega) ⟨s5.1, Int.le_refl _⟩]
      exact kids_same (by rw [en 3 (by decide)]) (fun k _ _ => by unfold th; rw [en 6 (by decide)])
  · subst t1
    exact ⟨R_lit 1 (by decide), fun _ => ⟨w2, fun _ => h _ _ _ w3, fun z => absurd w1 z⟩, fun z => absurd (show (1 : Int) < 64 by decide) z⟩
theorem ez_row {σ ρ τ : jx_St} {b n : Int} (hI : Inv σ) (hE : EZ σ b n ρ τ) (l : Int) (l0 : 0 ≤ l) : row τ l = row σ l := by
  obtain ⟨_, _, e7, e2, _, ek⟩ := hE
  have key : ∀ d : Nat, (d : Int) ≤ σ 2 (σ 7 0) → LR τ d = LR σ d ∧ ∀ x ∈ LR σ d, lvn σ x ∧ σ 2 x = σ 2 (σ 7 0) - (d : Int) := by
    intro d
    induction d with
    | zero =>
      intro _
      refine ⟨by simp only [LR]; rw [e7], fun x hx => ?_⟩
      have : x = σ 7 0 := List.mem_singleton.mp hx
      rw [this]
      exact ⟨hI.1.1.1, by omega⟩
    | succ d ih =>
      intro hd
      obtain ⟨h1, h2⟩ := ih (by omega)
      refine ⟨?_, fun x hx => ?_⟩
      · simp only [LR]
        rw [h1]
        have : ∀ L : List Int, (∀ x ∈ L, kids τ x = kids σ x) → L.flatMap (kids τ) = L.flatMap (kids σ) := by
          intro L
          induction L with
          | nil => intro _; rfl
          | cons y L ihL => intro hL; rw [List.flatMap_cons, List.flatMap_cons, hL y List.mem_cons_self, ihL (fun z hz => hL z (List.mem_cons_of_mem _ hz))]
        exact this _ (fun x hx => ek x (h2 x hx).1 (by have := (h2 x hx).2; omega))
      · simp only [LR] at hx
        obtain ⟨y, hy, hxy⟩ := List.mem_flatMap.mp hx
        obtain ⟨g1, g2⟩ := h2 y hy
        have g3 := hI.1.kid g1 (by omega) hxy
        exact ⟨g3.1, by omega⟩
  unfold row
  rw [e7, e2]
  by_cases c : 0 ≤ l ∧ l ≤ σ 2 (σ 7 0)
  · rw [if_pos c, if_pos c]
    exact (key _ (by omega)).1
  · rw [if_neg c, if_neg c]
