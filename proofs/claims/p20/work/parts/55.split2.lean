/-! ===== the pure part: splitting ===== -/
theorem adF_n {σ : jx_St} {n p x i : Int} {q : Nat} (h1 : q ≠ 1) (h3 : q ≠ 3) (h5 : q ≠ 5) (h6 : q ≠ 6) : adF σ n p x q i = σ q i := by
  simp only [adF]
  rw [if_neg h6, if_neg h3, if_neg (by split; exact h1; exact h5)]
theorem rmF_n {σ : jx_St} {n p i : Int} {q : Nat} (h1 : q ≠ 1) (h3 : q ≠ 3) (h5 : q ≠ 5) (h6 : q ≠ 6) : rmF σ n p q i = σ q i := by
  simp only [rmF]
  rw [if_neg h6, if_neg h3, if_neg (by split; exact h1; exact h5)]
theorem Ws.R2 {σ : jx_St} {P : List (Int × Int)} {E : List Int} (h : Ws σ P E) {n : Int} (hn : lvn σ n) : jx_R (σ 2 n) := by
  have := (h.sh.1 n hn).2.2
  exact jx_inR (by have := hn.2; omega) (by omega)
theorem Ws.kid {σ : jx_St} {P : List (Int × Int)} {E : List Int} (h : Ws σ P E) {n x : Int} (hn : lvn σ n) (hl : 0 < σ 2 n) (hx : x ∈ kids σ n) : lvn σ x ∧ σ 2 x = σ 2 n - 1 ∧ σ 5 x = n ∧ x ≠ σ 7 0 := by
  obtain ⟨a, b, _⟩ := h.2.2.2.2.1 n x hn hx
  rcases a with ⟨a, _⟩ | ⟨_, a, c, d⟩
  · omega
  · refine ⟨a, c, ?_, d⟩
    simp only [hm] at b
    rw [if_neg (by omega)] at b
    exact b
theorem Ws.th_R {σ : jx_St} {P : List (Int × Int)} {E : List Int} (h : Ws σ P E) {n k : Int} (hn : lvn σ n) (k0 : 0 ≤ k) (k1 : k < σ 3 n) : jx_R (th σ n k) := by
  have := Sh_tv h.sh hn k0 k1
  unfold tv at this
  split at this
  · exact this.R
  · exact this.R
theorem p_sp119 {Q : Int → jx_St → jx_St → Prop} {ρ τ : jx_St} {P : List (Int × Int)} {E X : List Int} {n f ab l k0 : Int} (hW : Ws τ ((f, l + 1) :: P) E) (hH : Hs τ X) (hX : ∀ m ∈ X, m = n ∨ m = f ∨ m = ab) (hE : ∀ m ∈ E, m = ab) (hn : lvn τ n) (hf : lvn τ f) (hab : lvn τ ab) (h2 : τ 2 ab = l + 1) (hl : 0 ≤ l) (h3 : τ 3 ab ≤ 4) (k00 : 0 ≤ k0) (k01 : k0 < τ 3 ab) (hk : th τ ab k0 = n) (h : ∀ τ' : jx_St, (∀ k, k ≠ 4 → k ≠ 9 → τ' k = adF τ ab (k0 + 1) f k) → (∀ i, τ' 9 i = if i = 0 then τ 9 0 + 1 else τ 9 i) → Ws τ' P [] → Hs τ' [] → Q ab ρ τ') : wp_C_split_119 Q n ρ τ f := by
  have hnk : n ∈ kids τ ab := by rw [← hk]; exact th_kids k00 k01
  obtain ⟨_, n2, n5, _⟩ := hW.kid hab (by omega) hnk
  refine p_aboveOf hn.1 ?_
  rw [n5]
  have s3 := hW.sh.1 ab hab
  refine p_placeIn hab.1 (by omega) hn.1.R (fun k a b => hW.th_R hab a b) k00 k01 hk (fun k a b e => ?_) ?_
  · have := nodup_th (hW.2.2.2.2.2.1 ab hab) a (by omega) k00 k01 (e.trans hk.symm)
    omega
  · have hfx := (hW.2.2.2.2.2.2.2.1 f (l + 1) List.mem_cons_self).1
    refine p_add hab.1 ⟨by omega, by omega⟩ ⟨by omega, by omega⟩ (hW.R2 hab) (by unfold tv; rw [h2, if_neg (by omega)]; exact hf.1) ?_
    have hW2 := ws_attach (p := k0 + 1) hW hab h2 h3 ⟨by omega, by omega⟩
    have hH2 := hs_ad (p := k0 + 1) (x := f) hW hH hab h3 ⟨by omega, by omega⟩
    have a2 : ∀ i, adF τ ab (k0 + 1) f 2 i = τ 2 i := fun i => by simp only [adF]; rw [if_neg (by decide), if_neg (by decide), if_neg (by split <;> decide)]
    have a3 : ∀ m, adF τ ab (k0 + 1) f 3 m = if m = ab then τ 3 ab + 1 else τ 3 m := fun m => by simp [adF]
    have lva : ∀ m, lvn (adF τ ab (k0 + 1) f) m ↔ lvn τ m := fun m => by unfold lvn; rw [a2]
    have hW3 : Ws (adF τ ab (k0 + 1) f) P [] := ws_E hW2 (fun m hm => Or.inr (fun _ => by rw [hE m hm, a3, if_pos rfl]; exact ⟨fun _ => by omega, fun _ => by omega⟩))
    have abn : ab ≠ n := fun e => by rw [e] at n2; omega
    have n5' : adF τ ab (k0 + 1) f 5 n = ab := by
      have hk2 : n ∈ kids (adF τ ab (k0 + 1) f) ab := (kids_ad (by omega) ⟨by omega, by omega⟩).mpr (Or.inr hnk)
      exact (hW3.kid ((lva ab).mpr hab) (by rw [a2]; omega) hk2).2.2.1
    refine p_refresh2 (t := f) hW3 hH2 ((lva n).mpr hn) (fun m hm => ?_) (fun τ1 b1 b2 b3 => ?_)
    · rcases List.mem_cons.mp hm with z | z
      · exact Or.inr (Or.inl (by rw [z, n5']))
      · rcases hX m z with z | z | z
        · exact Or.inl z
        · exact Or.inr (Or.inr z)
        · exact Or.inr (Or.inl (by rw [z, n5']))
    · have hf1 : lvn τ1 f := by unfold lvn; rw [b1 2 (by decide), a2]; exact hf
      refine p_refresh2 (t := -1) b2 b3 hf1 (fun m hm => Or.inl (List.mem_singleton.mp hm)) (fun τ2 c1 c2 c3 => ?_)
      have e9 : ∀ i, τ2 9 i = τ 9 i := fun i => by rw [c1 9 (by decide), b1 9 (by decide)]; simp only [adF]; rw [if_neg (by decide), if_neg (by decide), if_neg (by split <;> decide)]
      refine h _ (fun k k4 k9 => ?_) (fun i => ?_) ?_ ?_
      · funext i; rw [jx_su_ne k9, c1 k k4, b1 k k4]
      · rw [jx_su_same, e9, e9]
      · exact ws_congr c2 (by funext i; exact jx_su_ne (by decide)) (by funext i; exact jx_su_ne (by decide)) (by funext i; exact jx_su_ne (by decide)) (by funext i; exact jx_su_ne (by decide)) (by funext i; exact jx_su_ne (by decide)) (by funext i; exact jx_su_ne (by decide)) (by funext i; exact jx_su_ne (by decide))
      · refine (hs_congr c3 (by funext i; exact jx_su_ne (by decide)) (by funext i; exact jx_su_ne (by decide)) (by funext i; exact jx_su_ne (by decide)) (by funext i; exact jx_su_ne (by decide)) (by funext i; exact jx_su_ne (by decide)) (fun m hm => (c2.sh.1 m hm).1)).sub (fun m hm => Or.inr (fun q => ?_))
        have := q.1.1
        rw [List.mem_singleton] at hm
        omega
def spA (σ : jx_St) (P : List (Int × Int)) (n f ab k0 cut : Int) (c : Int → Int) (τ : jx_St) : Prop :=
  Ws τ P [] ∧ Hs τ [] ∧ (∀ m, τ 2 m = if m = f then σ 2 n else σ 2 m) ∧ (∀ m, τ 3 m = if m = n then cut else if m = f then 5 - cut else if m = ab then σ 3 ab + 1 else σ 3 m) ∧
  (∀ j, 0 ≤ j → j < cut → th τ n j = c j) ∧ (∀ j, 0 ≤ j → j < 5 - cut → th τ f j = c (cut + j)) ∧
  (∀ j, 0 ≤ j → j ≤ σ 3 ab → th τ ab j = if j = k0 + 1 then f else if k0 + 1 < j then th σ ab (j - 1) else th σ ab j) ∧
  (∀ m j, m ≠ n → m ≠ f → m ≠ ab → 0 ≤ j → j < 5 → th τ m j = th σ m j) ∧ (∀ i, τ 9 i = if i = 0 then σ 9 0 + 1 else σ 9 i) ∧
  (∀ q i, q ≠ 1 → q ≠ 2 → q ≠ 3 → q ≠ 4 → q ≠ 5 → q ≠ 6 → q ≠ 9 → τ q i = σ q i)
def spB (σ : jx_St) (P : List (Int × Int)) (n f g cut : Int) (c : Int → Int) (τ : jx_St) : Prop :=
  Ws τ P [] ∧ Hs τ [] ∧ (∀ m, τ 2 m = if m = g then σ 2 n + 1 else if m = f then σ 2 n else σ 2 m) ∧ (∀ m, τ 3 m = if m = n then cut else if m = f then 5 - cut else if m = g then 2 else σ 3 m) ∧
  (∀ j, 0 ≤ j → j < cut → th τ n j = c j) ∧ (∀ j, 0 ≤ j → j < 5 - cut → th τ f j = c (cut + j)) ∧ th τ g 0 = n ∧ th τ g 1 = f ∧
  (∀ m j, m ≠ n → m ≠ f → m ≠ g → 0 ≤ j → j < 5 → th τ m j = th σ m j) ∧ (∀ i, τ 9 i = if i = 0 then σ 9 0 + 1 else σ 9 i) ∧ τ 7 0 = g ∧
  (∀ q i, q ≠ 1 → q ≠ 2 → q ≠ 3 → q ≠ 4 → q ≠ 5 → q ≠ 6 → q ≠ 7 → q ≠ 9 → τ q i = σ q i)
/-- a node that is not the root is split -/
theorem p_splitA {Q : Int → jx_St → jx_St → Prop} {ρ σ τ : jx_St} {P : List (Int × Int)} {n f ab k0 cut : Int} {c : Int → Int} (hn : lvn σ n) (hf : nd f) (he : σ 2 f = -1) (hc : 2 ≤ cut ∧ cut ≤ 3) (hr : n ≠ σ 7 0) (hab : lvn σ ab) (h2 : σ 2 ab = σ 2 n + 1) (h3 : σ 3 ab ≤ 4) (k00 : 0 ≤ k0) (k01 : k0 < σ 3 ab) (hk : th σ ab k0 = n) (hR : jx_R (σ 7 0)) (hJ : spJ σ P n f cut c τ 5) (h : ∀ τ', spA σ P n f ab k0 cut c τ' → Q ab ρ τ') : wp_C_split_101 Q n ρ τ f := by
  obtain ⟨jW, ⟨X, jX, jH⟩, j3n, j3f, jn, jf, j3, jt, j2, jr⟩ := hJ
  have l0 := hn.2
  have nf : n ≠ f := fun e => by rw [e, he] at l0; omega
  have af : ab ≠ f := fun e => by rw [e, he] at h2; omega
  have an : ab ≠ n := fun e => by rw [e] at h2; omega
  rw [show min 5 cut = cut by omega] at j3n j3f jn jf
  have e7 : τ 7 0 = σ 7 0 := jr 7 0 (by decide) (by decide) (by decide) (by decide) (by decide) (by decide)
  have l2n : τ 2 n = σ 2 n := by rw [j2, if_neg nf]
  have l2f : τ 2 f = σ 2 n := by rw [j2, if_pos rfl]
  have l2a : τ 2 ab = σ 2 n + 1 := by rw [j2, if_neg af, h2]
  have t3 : τ 3 ab = σ 3 ab := j3 ab an af
  rw [show (5 - (5 : Int)).toNat = 0 by decide] at jW
  simp only [wcl, List.nil_append] at jW
  have hW' : Ws τ ((f, σ 2 n + 1) :: P) [] := ws_E jW (fun m hm => Or.inr (fun _ => by
    rcases List.mem_cons.mp hm with z | z
    · rw [z, j3n]; exact ⟨fun _ => by omega, fun _ => by omega⟩
    · rw [List.mem_singleton] at z; rw [z, j3f]; exact ⟨fun _ => by omega, fun _ => by omega⟩))
  refine ⟨hn.1.R, by rw [e7]; exact hR, fun q => absurd (by rw [← e7]; exact q) hr, fun _ => ?_⟩
  refine p_sp119 (ab := ab) (k0 := k0) hW' jH (fun m hm => (jX m hm).elim Or.inl (fun z => Or.inr (Or.inl z))) (fun m hm => absurd hm List.not_mem_nil) ⟨hn.1, by rw [l2n]; exact l0⟩ ⟨hf, by rw [l2f]; exact l0⟩ ⟨hab.1, by rw [l2a]; omega⟩ l2a l0 (by rw [t3]; exact h3) k00 (by rw [t3]; exact k01) (by rw [jt ab k0 an af k00 (by omega)]; exact hk) (fun τ' b1 b2 b3 b4 => h τ' ?_)
  have u : ∀ q i, q ≠ 1 → q ≠ 3 → q ≠ 4 → q ≠ 5 → q ≠ 6 → q ≠ 9 → τ' q i = τ q i := fun q i h1 h3 h4 h5 h6 h9 => by
    rw [b1 q h4 h9]
    simp only [adF]
    rw [if_neg h6, if_neg h3, if_neg (by split; exact h1; exact h5)]
  have uth : ∀ m j, th τ' m j = th (adF τ ab (k0 + 1) f) m j := fun m j => by unfold th; rw [b1 6 (by decide) (by decide)]
  have u3 : ∀ m, τ' 3 m = if m = ab then τ 3 ab + 1 else τ 3 m := fun m => by rw [b1 3 (by decide) (by decide)]; simp [adF]
  refine ⟨b3, b4, fun m => ?_, fun m => ?_, fun j j0 j1 => ?_, fun j j0 j1 => ?_, fun j j0 j1 => ?_, fun m j a b d j0 j1 => ?_, fun i => ?_, fun q i h1 h2 h3 h4 h5 h6 h9 => ?_⟩
  · rw [u 2 m (by decide) (by decide) (by decide) (by decide) (by decide) (by decide)]; exact j2 m
  · rw [u3]
    by_cases z : m = ab
    · rw [if_pos z, if_neg (by rw [z]; exact an), if_neg (by rw [z]; exact af), if_pos z, t3]
    · rw [if_neg z, if_neg z]
      by_cases y : m = n
      · rw [if_pos y, y, j3n]
      · rw [if_neg y]
        by_cases x : m = f
        · rw [if_pos x, x, j3f]
        · rw [if_neg x]; exact j3 m y x
  · rw [uth, th_ad_ne (fun e => an e.symm) j0 (by omega) (by rw [t3]; exact h3) ⟨by omega, by omega⟩]; exact jn j j0 j1
  · rw [uth, th_ad_ne (fun e => af e.symm) j0 (by omega) (by rw [t3]; exact h3) ⟨by omega, by omega⟩]; exact jf j j0 j1
  · rw [uth, th_ad (by omega)]
    by_cases z : j = k0 + 1
    · rw [if_pos z, if_pos z]
    · rw [if_neg z, if_neg z]
      by_cases y : k0 + 1 < j
      · rw [if_pos y, if_pos y]; exact jt ab _ an af (by omega) (by omega)
      · rw [if_neg y, if_neg y]; exact jt ab _ an af (by omega) (by omega)
  · rw [uth, th_ad_ne d j0 (by omega) (by rw [t3]; exact h3) ⟨by omega, by omega⟩]; exact jt m j a b j0 j1
  · rw [b2, jr 9 0 (by decide) (by decide) (by decide) (by decide) (by decide) (by decide), jr 9 i (by decide) (by decide) (by decide) (by decide) (by decide) (by decide)]
  · rw [u q i h1 h3 h4 h5 h6 h9]; exact jr q i h1 h2 h3 h4 h5 h6
/-- the root is split -/
theorem p_splitB {Q : Int → jx_St → jx_St → Prop} {ρ σ τ : jx_St} {P : List (Int × Int)} {n f cut : Int} {c : Int → Int} (hn : lvn σ n) (hf : nd f) (he : σ 2 f = -1) (hc : 2 ≤ cut ∧ cut ≤ 3) (hr : n = σ 7 0) (hl : σ 2 n ≤ 2) (hJ : spJ σ P n f cut c τ 5) (h : ∀ g τ', nd g → g ≠ f → σ 2 g = -1 → (∀ j, 0 ≤ j → j < g → j ≠ f → σ 2 j ≠ -1) → spB σ P n f g cut c τ' → Q g ρ τ') : wp_C_split_101 Q n ρ τ f := by
  obtain ⟨jW, ⟨X, jX, jH⟩, j3n, j3f, jn, jf, j3, jt, j2, jr⟩ := hJ
  have l0 := hn.2
  have nf : n ≠ f := fun e => by rw [e, he] at l0; omega
  rw [show min 5 cut = cut by omega] at j3n j3f jn jf
  have e7 : τ 7 0 = σ 7 0 := jr 7 0 (by decide) (by decide) (by decide) (by decide) (by decide) (by decide)
  have l2n : τ 2 n = σ 2 n := by rw [j2, if_neg nf]
  have l2f : τ 2 f = σ 2 n := by rw [j2, if_pos rfl]
  rw [show (5 - (5 : Int)).toNat = 0 by decide] at jW
  simp only [wcl, List.nil_append] at jW
  have hW' : Ws τ ((f, σ 2 n + 1) :: P) [] := ws_E jW (fun m hm => Or.inr (fun _ => by
    rcases List.mem_cons.mp hm with z | z
    · rw [z, j3n]; exact ⟨fun _ => by omega, fun _ => by omega⟩
    · rw [List.mem_singleton] at z; rw [z, j3f]; exact ⟨fun _ => by omega, fun _ => by omega⟩))
  obtain ⟨g, g0, g1, g2⟩ := cnt_free hW'
  have gf : g ≠ f := fun e => by rw [e, l2f] at g1; omega
  have gn : g ≠ n := fun e => by rw [e, l2n] at g1; omega
  have g1' : σ 2 g = -1 := by rw [j2, if_neg gf] at g1; exact g1
  have g3 : τ 3 g = 0 := (hW'.2.2.1 g g0 g1).1
  have er : τ 7 0 = n := by rw [e7, hr]
  refine ⟨hn.1.R, by rw [er]; exact hn.1.R, fun _ => ?_, fun q => absurd er.symm q⟩
  show wp_T_levelOf _ τ (τ 7 0)
  rw [er]
  refine p_levelOf hn.1 (p_newNode g0 g1 g2 ?_)
  have e77 : jx_su (jx_su τ 2 g (τ 2 n + 1)) 7 0 g 7 0 = g := jx_su_eq
  show wp_T_add _ (jx_su (jx_su τ 2 g (τ 2 n + 1)) 7 0 g) (jx_su (jx_su τ 2 g (τ 2 n + 1)) 7 0 g 7 0) 0 n
  rw [e77]
  have hWr := ws_raise hW' g0 g1 (by rw [er, l2n]; exact hl) (by rw [er, j3n]; exact hc.1)
  rw [er] at hWr
  have hHr : Hs (jx_su (jx_su τ 2 g (τ 2 n + 1)) 7 0 g) (g :: X) := by
    have hWn := ws_new (l := τ 2 n) hW' g0 g1 ⟨by rw [l2n]; exact l0, by rw [er]; exact Int.le_refl _⟩
    have h1 : Hs (jx_su τ 2 g (τ 2 n + 1)) (g :: X) := hs_new hW' jH
    exact hs_congr h1 (by funext i; exact jx_su_ne (by decide)) (by funext i; exact jx_su_ne (by decide)) (by funext i; exact jx_su_ne (by decide)) (by funext i; exact jx_su_ne (by decide)) (by funext i; exact jx_su_ne (by decide)) (fun m hm => by
      rw [jx_su_ne (by decide)]
      by_cases z : m = g
      · rw [z, g3]; exact Int.le_refl _
      · have hm' : lvn τ m := by
          have h2 := hm.2
          rw [jx_su_same, if_neg z] at h2
          exact ⟨hm.1, h2⟩
        exact (hW'.sh.1 m hm').1)
  have r2 : ∀ m, jx_su (jx_su τ 2 g (τ 2 n + 1)) 7 0 g 2 m = if m = g then σ 2 n + 1 else τ 2 m := fun m => by rw [jx_su_ne (by decide), jx_su_same, l2n]
  have rn : ∀ q i, q ≠ 2 → q ≠ 7 → jx_su (jx_su τ 2 g (τ 2 n + 1)) 7 0 g q i = τ q i := fun q i h2 h7 => by rw [jx_su_ne h7, jx_su_ne h2]
  have lg : lvn (jx_su (jx_su τ 2 g (τ 2 n + 1)) 7 0 g) g := ⟨g0, by rw [r2, if_pos rfl]; omega⟩
  have l2g : jx_su (jx_su τ 2 g (τ 2 n + 1)) 7 0 g 2 g = σ 2 n + 1 := by rw [r2, if_pos rfl]
  have l3g : jx_su (jx_su τ 2 g (τ 2 n + 1)) 7 0 g 3 g = 0 := by rw [rn _ _ (by decide) (by decide), g3]
  refine p_add g0 ⟨by rw [l3g]; decide, by rw [l3g]; decide⟩ ⟨Int.le_refl _, by rw [l3g]; decide⟩ (by rw [l2g]; exact jx_inR (by omega) (by omega)) (by unfold tv; rw [l2g, if_neg (by omega)]; exact hn.1) ?_
  have hWa := ws_attach (p := 0) hWr lg (by rw [l2g, l2n]) (by rw [l3g]; decide) ⟨Int.le_refl _, by rw [l3g]; decide⟩
  have hHa := hs_ad (p := 0) (x := n) hWr hHr lg (by rw [l3g]; decide) ⟨Int.le_refl _, by rw [l3g]; decide⟩
  generalize hs : jx_su (jx_su τ 2 g (τ 2 n + 1)) 7 0 g = υ at *
  have a2 : ∀ i, adF υ g 0 n 2 i = υ 2 i := fun i => by simp only [adF]; rw [if_neg (by decide), if_neg (by decide), if_neg (by split <;> decide)]
  have a3 : ∀ m, adF υ g 0 n 3 m = if m = g then 1 else υ 3 m := fun m => by simp only [adF]; rw [if_neg (by decide), if_pos trivial, l3g]; rfl
  have ag0 : th (adF υ g 0 n) g 0 = n := by rw [th_ad (by rw [l3g]; decide), if_pos rfl]
  refine p_sp119 (ab := g) (k0 := 0) hWa hHa (fun m hm => ?_) (fun m hm => List.mem_singleton.mp hm) ⟨hn.1, by rw [a2, r2, if_neg (fun e => gn e.symm), l2n]; exact l0⟩ ⟨hf, by rw [a2, r2, if_neg (fun e => gf e.symm), l2f]; exact l0⟩ ⟨g0, by rw [a2, l2g]; omega⟩ (by rw [a2, l2g]) l0 (by rw [a3, if_pos rfl]; decide) (Int.le_refl _) (by rw [a3, if_pos rfl]; decide) ag0 (fun τ' b1 b2 b3 b4 => h g τ' g0 gf g1' (fun j j0 j1 jf e => ?_) ?_)
  · rcases List.mem_cons.mp hm with z | z
    · exact Or.inr (Or.inr z)
    · rcases List.mem_cons.mp z with z | z
      · exact Or.inr (Or.inr z)
      · exact (jX m z).elim Or.inl (fun z => Or.inr (Or.inl z))
  · have := (g2 j j0 j1).1
    rw [j2, if_neg jf] at this
    exact this e
  · have u : ∀ q i, q ≠ 1 → q ≠ 3 → q ≠ 4 → q ≠ 5 → q ≠ 6 → q ≠ 9 → τ' q i = υ q i := fun q i h1 h3 h4 h5 h6 h9 => by
      rw [b1 q h4 h9, adF_n h1 h3 h5 h6, adF_n h1 h3 h5 h6]
    have uth : ∀ m j, th τ' m j = th (adF (adF υ g 0 n) g (0 + 1) f) m j := fun m j => by unfold th; rw [b1 6 (by decide) (by decide)]
    have u3 : ∀ m, τ' 3 m = if m = g then 2 else υ 3 m := fun m => by
      rw [b1 3 (by decide) (by decide)]
      have : adF (adF υ g 0 n) g (0 + 1) f 3 m = if m = g then adF υ g 0 n 3 g + 1 else adF υ g 0 n 3 m := by simp [adF]
      rw [this, a3, a3, if_pos rfl]
      by_cases z : m = g
      · rw [if_pos z, if_pos z]; rfl
      · rw [if_neg z, if_neg z, if_neg z]
    have tne : ∀ m j, m ≠ g → 0 ≤ j → j < 5 → th τ' m j = th τ m j := fun m j hm j0 j1 => by
      rw [uth, th_ad_ne hm j0 j1 (by rw [a3, if_pos rfl]; decide) (by rw [a3, if_pos rfl]; decide), th_ad_ne hm j0 j1 (by rw [l3g]; decide) (by rw [l3g]; decide)]
      exact rn 6 _ (by decide) (by decide)
    refine ⟨b3, b4, fun m => ?_, fun m => ?_, fun j j0 j1 => ?_, fun j j0 j1 => ?_, ?_, ?_, fun m j a b d j0 j1 => ?_, fun i => ?_, ?_, fun q i h1 h2 h3 h4 h5 h6 h7 h9 => ?_⟩
    · rw [u 2 m (by decide) (by decide) (by decide) (by decide) (by decide) (by decide), r2, j2]
    · rw [u3]
      by_cases z : m = g
      · rw [if_pos z, if_neg (by rw [z]; exact gn), if_neg (by rw [z]; exact gf), if_pos z]
      · rw [if_neg z, if_neg z, rn 3 m (by decide) (by decide)]
        by_cases y : m = n
        · rw [if_pos y, y, j3n]
        · rw [if_neg y]
          by_cases x : m = f
          · rw [if_pos x, x, j3f]
          · rw [if_neg x]; exact j3 m y x
    · rw [tne n j (fun e => gn e.symm) j0 (by omega)]; exact jn j j0 j1
    · rw [tne f j (fun e => gf e.symm) j0 (by omega)]; exact jf j j0 j1
    · rw [uth, th_ad (by rw [a3, if_pos rfl]; decide), if_neg (by decide), if_neg (by decide)]; exact ag0
    · rw [uth, th_ad (by rw [a3, if_pos rfl]; decide), if_pos (by decide)]
    · rw [tne m j d j0 j1]; exact jt m j a b j0 j1
    · rw [b2]
      have e9 : ∀ i, adF υ g 0 n 9 i = σ 9 i := fun i => by
        simp only [adF]
        rw [if_neg (by decide), if_neg (by decide), if_neg (by split <;> decide), rn 9 i (by decide) (by decide)]
        exact jr 9 i (by decide) (by decide) (by decide) (by decide) (by decide) (by decide)
      rw [e9, e9]
    · rw [u 7 0 (by decide) (by decide) (by decide) (by decide) (by decide) (by decide)]; exact e77
    · rw [u q i h1 h3 h4 h5 h6 h9, rn q i h2 h7]; exact jr q i h1 h2 h3 h4 h5 h6
