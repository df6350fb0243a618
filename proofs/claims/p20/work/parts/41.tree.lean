/-! ===== the pure part: Tree's methods ===== -/
theorem jx_at_in {n : Nat} {f : Int → Int} {i : Int} (h0 : 0 ≤ i) (h1 : i < (n : Int)) : jx_at n f i = f i := if_pos ⟨h0, h1⟩
theorem jx_at_no {n : Nat} {f : Int → Int} {i : Int} (h : i < 0 ∨ (n : Int) ≤ i) : jx_at n f i = -1 := if_neg (by omega)
theorem jx_se_in {n : Nat} {σ : jx_St} {k : Nat} {i v : Int} (h0 : 0 ≤ i) (h1 : i < (n : Int)) : jx_se n σ k i v = jx_su σ k i v := if_pos ⟨h0, h1⟩
def nd (n : Int) : Prop := 0 ≤ n ∧ n < 32
def nb (b : Int) : Prop := 0 ≤ b ∧ b < 31
def th (σ : jx_St) (n k : Int) : Int := σ 6 (n * 5 + k)
def hv (σ : jx_St) (x l : Int) : Int := if l = 0 then σ 0 x else σ 4 x
/-- a thing of a row at a level -/
def tv (x l : Int) : Prop := if l = 0 then nb x else nd x
theorem nd.R {n : Int} (h : nd n) : jx_R n := jx_inR (by have := h.1; omega) (by have := h.2; omega)
theorem nb.R {n : Int} (h : nb n) : jx_R n := jx_inR (by have := h.1; omega) (by have := h.2; omega)
theorem p_levelOf {Q : Int → Prop} {σ : jx_St} {n : Int} (hn : nd n) (h : Q (σ 2 n)) : wp_T_levelOf Q σ n := ⟨hn.R, by rw [jx_at_in hn.1 hn.2]; exact h⟩
theorem p_sizeOf {Q : Int → Prop} {σ : jx_St} {n : Int} (hn : nd n) (h : Q (σ 3 n)) : wp_T_sizeOf Q σ n := ⟨hn.R, by rw [jx_at_in hn.1 hn.2]; exact h⟩
theorem p_aboveOf {Q : Int → Prop} {σ : jx_St} {n : Int} (hn : nd n) (h : Q (σ 5 n)) : wp_T_aboveOf Q σ n := ⟨hn.R, by rw [jx_at_in hn.1 hn.2]; exact h⟩
theorem p_homeOf {Q : Int → Prop} {σ : jx_St} {b : Int} (hb : nb b) (h : Q (σ 1 b)) : wp_T_homeOf Q σ b := ⟨hb.R, by rw [jx_at_in hb.1 hb.2]; exact h⟩
theorem p_thingAt {Q : Int → Prop} {σ : jx_St} {n k : Int} (hn : nd n) (hk : 0 ≤ k ∧ k < 5) (h : Q (th σ n k)) : wp_T_thingAt Q σ n k := by
  have h1 := hn.1
  have h2 := hn.2
  refine ⟨jx_inR (by omega) (by omega), fun q => absurd q (by omega), fun _ => ⟨jx_inR (by omega) (by omega), fun _ => ⟨jx_inR (by omega) (by omega), ?_⟩, fun q => absurd hk.2 q⟩⟩
  rw [jx_at_in (by omega) (by omega)]
  exact h
theorem p_hull {Q : Int → Prop} {σ : jx_St} {x l : Int} (hl : jx_R l) (hx : tv x l) (h : Q (hv σ x l)) : wp_T_hull Q σ x l := by
  unfold tv at hx
  unfold hv at h
  refine ⟨hl, fun q => ?_, fun q => ?_⟩
  · rw [if_pos q] at hx h
    exact ⟨hx.R, by rw [jx_at_in hx.1 hx.2]; exact h⟩
  · rw [if_neg q] at hx h
    exact ⟨hx.R, by rw [jx_at_in hx.1 hx.2]; exact h⟩
theorem p_setBox {Q : jx_St → Prop} {σ : jx_St} {b v : Int} (hb : nb b) (h : Q (jx_su σ 0 b v)) : wp_T_setBox Q σ b v := ⟨hb.R, by rw [jx_se_in hb.1 hb.2]; exact h⟩
theorem p_height {Q : Int → Prop} {σ : jx_St} (hn : nd (σ 7 0)) (h : Q (σ 2 (σ 7 0) + 1)) : wp_T_height Q σ := p_levelOf hn h
theorem p_has {Q : Int → Prop} {σ : jx_St} {b : Int} (hb : nb b) (hr : jx_R (σ 0 b)) (h : Q (if σ 0 b = -1 then 0 else 1)) : wp_T_has Q σ b := by
  refine ⟨hb.R, ?_⟩
  rw [jx_at_in hb.1 hb.2]
  refine ⟨hr, fun q => ?_, fun q => ?_⟩
  · rw [if_pos q] at h; exact h
  · rw [if_neg q] at h; exact h
/-- a thing comes into a row -/
def adF (σ : jx_St) (n p x : Int) : jx_St := fun k i =>
  if k = 6 then (if i = n * 5 + p then x else if n * 5 + p < i ∧ i ≤ n * 5 + σ 3 n then σ 6 (i - 1) else σ 6 i)
  else if k = 3 then (if i = n then σ 3 n + 1 else σ 3 i)
  else if k = (if σ 2 n = 0 then 1 else 5) then (if i = x then n else σ k i)
  else σ k i
theorem p_add {Q : jx_St → Prop} {σ : jx_St} {n p x : Int} (hn : nd n) (hs : 0 ≤ σ 3 n ∧ σ 3 n < 5) (hp : 0 ≤ p ∧ p ≤ σ 3 n) (hl : jx_R (σ 2 n)) (hx : tv x (σ 2 n)) (h : Q (adF σ n p x)) : wp_T_add Q σ n p x := by
  have h1 := hn.1
  have h2 := hn.2
  refine p_sizeOf hn ⟨jx_inR (by omega) (by omega), fun q => absurd q (by omega), fun _ => ⟨jx_inR (by omega) (by omega), fun _ => ⟨jx_inR (by omega) (by omega), fun q => absurd q (by omega), fun _ => ⟨jx_inR (by omega) (by omega), jx_inR (by omega) (by omega), fun _ => ?_, fun q => absurd hp.2 q⟩⟩, fun q => absurd hs.2 q⟩⟩
  refine jx_loop (fun v => p ≤ v.2 ∧ v.2 ≤ σ 3 n ∧ ∀ (k : Nat) (i : Int), v.1 k i = if k = 6 ∧ n * 5 + v.2 < i ∧ i ≤ n * 5 + σ 3 n then σ 6 (i - 1) else σ k i) (fun v => (v.2 - p).toNat) (fun B v hI hB => ?_) ⟨hp.2, Int.le_refl _, fun k i => ?_⟩
  · obtain ⟨τ, j⟩ := v
    obtain ⟨a1, a2, a3⟩ := hI
    dsimp only at a1 a2 a3 ⊢
    refine ⟨jx_inR (by omega) (by omega), jx_inR (by omega) (by omega), fun q => ?_, fun q => ⟨jx_inR (by omega) (by omega), jx_inR (by omega) (by omega), ?_⟩⟩
    · have ej : j = p := by omega
      subst ej
      refine ⟨jx_inR (by omega) (by omega), hn.R, ?_⟩
      rw [jx_se_in (by omega) (by omega), jx_se_in (by omega) (by omega)]
      have e2 : jx_su (jx_su τ 6 (n * 5 + j) x) 3 n (σ 3 n + 1) 2 n = σ 2 n := by
        simp only [jx_su, a3]
        simp
      refine p_levelOf hn ?_
      rw [e2]
      refine ⟨hl, fun q => ?_, fun q => ?_⟩
      · unfold tv at hx
        rw [if_pos q] at hx
        refine ⟨hx.R, ?_⟩
        rw [jx_se_in hx.1 hx.2]
        have e : jx_su (jx_su (jx_su τ 6 (n * 5 + j) x) 3 n (σ 3 n + 1)) 1 x n = adF σ n j x := by
          funext k i
          simp only [jx_su, a3, adF, if_pos q]
          by_cases k6 : k = 6
          · subst k6; simp
          · by_cases k3 : k = 3
            · subst k3; simp
            · by_cases k1 : k = 1
              · subst k1; simp
              · simp [k6, k3, k1]
        rw [e]
        exact h
      · unfold tv at hx
        rw [if_neg q] at hx
        refine ⟨hx.R, ?_⟩
        rw [jx_se_in hx.1 hx.2]
        have e : jx_su (jx_su (jx_su τ 6 (n * 5 + j) x) 3 n (σ 3 n + 1)) 5 x n = adF σ n j x := by
          funext k i
          simp only [jx_su, a3, adF, if_neg q]
          by_cases k6 : k = 6
          · subst k6; simp
          · by_cases k3 : k = 3
            · subst k3; simp
            · by_cases k1 : k = 5
              · subst k1; simp
              · simp [k6, k3, k1]
        rw [e]
        exact h
    · refine hB _ ⟨by omega, by omega, fun k i => ?_⟩ (by show (j + -1 - p).toNat < (j - p).toNat; omega)
      dsimp only
      rw [jx_se_in (by omega) (by omega), jx_at_in (by omega) (by omega)]
      simp only [jx_su, a3]
      by_cases k6 : k = 6
      · subst k6
        by_cases e : i = n * 5 + j
        · subst e
          rw [if_pos ⟨rfl, rfl⟩, if_neg (by omega), if_pos (by omega)]
        · rw [if_neg (by omega)]
          by_cases e2 : n * 5 + j < i ∧ i ≤ n * 5 + σ 3 n
          · rw [if_pos (by omega), if_pos (by omega)]
          · rw [if_neg (by omega), if_neg (by omega)]
      · simp [k6]
  · dsimp only
    rw [if_neg (by omega)]
/-- a thing leaves its row -/
def rmF (σ : jx_St) (n p : Int) : jx_St := fun k i =>
  if k = 6 then (if n * 5 + p ≤ i ∧ i < n * 5 + σ 3 n - 1 then σ 6 (i + 1) else if i = n * 5 + σ 3 n - 1 then -1 else σ 6 i)
  else if k = 3 then (if i = n then σ 3 n - 1 else σ 3 i)
  else if k = (if σ 2 n = 0 then 1 else 5) then (if i = th σ n p then -1 else σ k i)
  else σ k i
theorem p_remove {Q : jx_St → Prop} {σ : jx_St} {n p : Int} (hn : nd n) (hs : σ 3 n ≤ 5) (hp : 0 ≤ p ∧ p < σ 3 n) (hl : jx_R (σ 2 n)) (hx : tv (th σ n p) (σ 2 n)) (h : Q (rmF σ n p)) : wp_T_remove Q σ n p := by
  have h1 := hn.1
  have h2 := hn.2
  have core : ∀ (kk : Nat), kk = (if σ 2 n = 0 then 1 else 5) → jx_lp (fun B53v v53 => wp_T_remove_53 Q n p (fun w53 => wp_T_remove_93 Q n p w53 (σ 3 n) (n * 5)) (σ 3 n) (n * 5) B53v v53.1 v53.2) ((jx_su σ kk (th σ n p) (-1)), p) := by
    intro kk hkk
    have hk6 : kk ≠ 6 := by rw [hkk]; split <;> decide
    have hk3 : kk ≠ 3 := by rw [hkk]; split <;> decide
    refine jx_loop (fun v => p ≤ v.2 ∧ v.2 ≤ σ 3 n - 1 ∧ ∀ (k : Nat) (i : Int), v.1 k i = if k = 6 ∧ n * 5 + p ≤ i ∧ i < n * 5 + v.2 then σ 6 (i + 1) else if k = kk ∧ i = th σ n p then -1 else σ k i) (fun v => (σ 3 n - v.2).toNat) (fun B v hI hB => ?_) ⟨Int.le_refl _, by show p ≤ σ 3 n - 1; omega, fun k i => ?_⟩
    · obtain ⟨τ, j⟩ := v
      obtain ⟨a1, a2, a3⟩ := hI
      dsimp only at a1 a2 a3 ⊢
      refine ⟨jx_inR (by omega) (by omega), jx_inR (by omega) (by omega), fun q => ⟨jx_inR (by omega) (by omega), jx_inR (by omega) (by omega), ?_⟩, fun q => ?_⟩
      · refine hB _ ⟨by omega, by omega, fun k i => ?_⟩ (by show (σ 3 n - (j + 1)).toNat < (σ 3 n - j).toNat; omega)
        dsimp only
        rw [jx_se_in (by omega) (by omega), jx_at_in (by omega) (by omega)]
        simp only [jx_su, a3]
        by_cases k6 : k = 6
        · subst k6
          by_cases e : i = n * 5 + j
          · subst e
            rw [if_pos ⟨rfl, rfl⟩, if_neg (by omega), if_neg (by omega), if_pos (by omega)]
          · rw [if_neg (by omega)]
            by_cases e2 : n * 5 + p ≤ i ∧ i < n * 5 + j
            · rw [if_pos (by omega), if_pos (by omega)]
            · rw [if_neg (by omega), if_neg (by omega), if_neg (by omega)]
        · simp [k6]
      · have ej : j = σ 3 n - 1 := by omega
        refine ⟨jx_inR (by omega) (by omega), hn.R, ?_⟩
        rw [jx_se_in (by omega) (by omega), jx_se_in (by omega) (by omega)]
        have e : jx_su (jx_su τ 6 (n * 5 + σ 3 n - 1) (-1)) 3 n (σ 3 n - 1) = rmF σ n p := by
          funext k i
          simp only [jx_su, a3, rmF, ← hkk]
          by_cases k6 : k = 6
          · subst k6
            have : ¬ (6 = kk) := fun e => hk6 e.symm
            simp only [this, false_and, if_false, if_true, true_and]
            by_cases e1 : i = n * 5 + σ 3 n - 1
            · subst e1
              simp
            · by_cases e2 : n * 5 + p ≤ i ∧ i < n * 5 + σ 3 n - 1
              · rw [if_neg (by omega), if_neg e1, if_pos (by omega), if_pos e2]
              · rw [if_neg (by omega), if_neg e1, if_neg (by omega), if_neg e2, if_neg e1]
          · by_cases k3 : k = 3
            · subst k3
              have : ¬ (3 = kk) := fun e => hk3 e.symm
              simp [this]
            · by_cases k1 : k = kk
              · subst k1; simp [k6, k3]
              · simp [k6, k3, k1]
        rw [e]
        exact h
    · dsimp only
      simp only [jx_su]
      have e : ¬ (k = 6 ∧ n * 5 + p ≤ i ∧ i < n * 5 + p) := by omega
      rw [if_neg e]
  have hp2 : 0 ≤ p ∧ p < 5 := by omega
  refine p_sizeOf hn ⟨jx_inR (by omega) (by omega), fun q => absurd q (by omega), fun _ => ⟨jx_inR (by omega) (by omega), jx_inR (by omega) (by omega), fun _ => p_levelOf hn ⟨hl, fun q => ?_, fun q => ?_⟩, fun q => absurd hp.2 q⟩⟩
  · have hx1 := hx
    unfold tv at hx1
    rw [if_pos q] at hx1
    refine p_thingAt hn hp2 ⟨hx1.R, ?_⟩
    rw [jx_se_in hx1.1 hx1.2]
    exact core 1 (by rw [if_pos q])
  · have hx1 := hx
    unfold tv at hx1
    rw [if_neg q] at hx1
    refine p_thingAt hn hp2 ⟨hx1.R, ?_⟩
    rw [jx_se_in hx1.1 hx1.2]
    exact core 5 (by rw [if_neg q])
