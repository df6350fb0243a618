/-! ===== the pure part: the start ===== -/
def PTd (τ : jx_St) : Prop := (∀ b, nb b → τ 0 b = -1) ∧ τ 2 0 = 0 ∧ (∀ n, nd n → n ≠ 0 → τ 2 n = -1) ∧ (∀ n, nd n → τ 3 n = 0 ∧ τ 4 n = -1 ∧ τ 5 n = -1) ∧ τ 7 0 = 0 ∧ τ 8 0 = 0 ∧ τ 9 0 = 0 ∧ τ 10 0 = 0
def PMd (μ : jx_St) : Prop := (∀ j, μ 0 j = if 160 ≤ j ∧ j < 199 then -1 else 0) ∧ ∀ z j, z ≠ 0 → μ z j = 0
theorem fill_ne {σ : jx_St} {k n : Nat} {v i : Int} {z : Nat} (h : z ≠ k) : jx_fill σ k n v z i = σ z i := by unfold jx_fill; rw [if_neg (fun y => h y.1)]
theorem fill_in {σ : jx_St} {k n : Nat} {v i : Int} (h0 : 0 ≤ i) (h1 : i < (n : Int)) : jx_fill σ k n v k i = v := by unfold jx_fill; rw [if_pos ⟨rfl, h0, h1⟩]
theorem init_T : ∀ sT : jx_St, sT = (fun _ _ => 0) → wp_T_init PTd sT := by
  intro sT hs
  generalize hσ : (jx_fill (jx_fill (jx_fill (jx_fill (jx_fill (jx_fill sT 0 31 (-1)) 1 31 (-1)) 2 32 (-1)) 4 32 (-1)) 5 32 (-1)) 6 160 (-1)) = σ
  have f0 : ∀ b, nb b → σ 0 b = -1 := fun b hb => by
    rw [← hσ, fill_ne (by decide), fill_ne (by decide), fill_ne (by decide), fill_ne (by decide), fill_ne (by decide), fill_in hb.1 hb.2]
  have f2 : ∀ n, nd n → σ 2 n = -1 := fun n hn => by
    rw [← hσ, fill_ne (by decide), fill_ne (by decide), fill_ne (by decide), fill_in hn.1 hn.2]
  have f4 : ∀ n, nd n → σ 4 n = -1 := fun n hn => by
    rw [← hσ, fill_ne (by decide), fill_ne (by decide), fill_in hn.1 hn.2]
  have f5 : ∀ n, nd n → σ 5 n = -1 := fun n hn => by
    rw [← hσ, fill_ne (by decide), fill_in hn.1 hn.2]
  have fz : ∀ z i, z ≠ 0 → z ≠ 1 → z ≠ 2 → z ≠ 4 → z ≠ 5 → z ≠ 6 → σ z i = 0 := fun z i z0 z1 z2 z4 z5 z6 => by
    rw [← hσ, fill_ne z6, fill_ne z5, fill_ne z4, fill_ne z2, fill_ne z1, fill_ne z0, hs]
  have n0 : nd 0 := ⟨Int.le_refl _, by decide⟩
  have e : ∀ z i, z ≠ 2 → z ≠ 7 → jx_su (jx_su σ 2 0 0) 7 0 0 z i = σ z i := fun z i z2 z7 => by rw [jx_su_ne z7, jx_su_ne z2]
  unfold wp_T_init
  rw [hσ]
  refine p_newNode (f := 0) n0 (f2 0 n0) (fun j j0 j1 => by omega) ?_
  refine ⟨fun b hb => by rw [e 0 b (by decide) (by decide)]; exact f0 b hb, by rw [jx_su_ne (by decide), jx_su_eq], fun n hn hne => by rw [jx_su_ne (by decide), jx_su_same, if_neg hne]; exact f2 n hn, fun n hn => ⟨by rw [e 3 n (by decide) (by decide)]; exact fz 3 n (by decide) (by decide) (by decide) (by decide) (by decide) (by decide), by rw [e 4 n (by decide) (by decide)]; exact f4 n hn, by rw [e 5 n (by decide) (by decide)]; exact f5 n hn⟩, jx_su_eq, by rw [e 8 0 (by decide) (by decide)]; exact fz 8 0 (by decide) (by decide) (by decide) (by decide) (by decide) (by decide), by rw [e 9 0 (by decide) (by decide)]; exact fz 9 0 (by decide) (by decide) (by decide) (by decide) (by decide) (by decide), by rw [e 10 0 (by decide) (by decide)]; exact fz 10 0 (by decide) (by decide) (by decide) (by decide) (by decide) (by decide)⟩
theorem init_M : ∀ sM : jx_St, sM = (fun _ _ => 0) → wp_M_init PMd sM := by
  intro sM hs
  have s0 : ∀ z j, sM z j = 0 := fun z j => by rw [hs]
  refine jx_loop (fun v => 1 ≤ v.2 ∧ v.2 ≤ 40 ∧ (∀ j, v.1 0 j = if 160 ≤ j ∧ j < 159 + v.2 then -1 else 0) ∧ ∀ z j, z ≠ 0 → v.1 z j = 0) (fun v => (40 - v.2).toNat) (fun B v hI hB => ?_) ⟨Int.le_refl _, by dsimp only; omega, fun j => by dsimp only; rw [if_neg (by omega)]; exact s0 0 j, fun z j _ => s0 z j⟩
  obtain ⟨ν, i⟩ := v
  obtain ⟨a1, a2, a3, a4⟩ := hI
  dsimp only at a1 a2 a3 a4 ⊢
  refine ⟨jx_inR (by omega) (by omega), fun q => ⟨⟨by omega, by show 159 + i < 439; omega⟩, hB _ ⟨by dsimp only; omega, by dsimp only; omega, fun j => ?_, fun z j hz => ?_⟩ (by dsimp only; omega)⟩, fun q => ⟨fun j => ?_, a4⟩⟩
  · dsimp only
    rw [jx_su_same, a3]
    by_cases e : j = 159 + i
    · rw [if_pos e, if_pos (by omega)]
    · rw [if_neg e]
      by_cases y : 160 ≤ j ∧ j < 159 + i
      · rw [if_pos y, if_pos (by omega)]
      · rw [if_neg y, if_neg (by omega)]
  · dsimp only; rw [jx_su_ne hz]; exact a4 z j hz
  · rw [a3, show i = 40 by omega]; rfl
theorem init_RT {τ μ : jx_St} (hT : PTd τ) (hM : PMd μ) : RT τ μ := by
  obtain ⟨t0, t2, t2', t3, t7, t8, t9, t10⟩ := hT
  obtain ⟨m0, mz⟩ := hM
  have n0 : nd 0 := ⟨Int.le_refl _, by decide⟩
  have lv : ∀ m, lvn τ m → m = 0 := fun m hm => by
    by_cases c : m = 0
    · exact c
    · have := hm.2; rw [t2' m hm.1 c] at this; omega
  have l0 : lvn τ 0 := ⟨n0, by rw [t2]; exact Int.le_refl _⟩
  have hk : kids τ 0 = [] := kids_0 (t3 0 n0).1
  have noal : ∀ x l, ¬ alv τ x l := fun x l h => by
    rcases h with ⟨_, b, c⟩ | ⟨_, b, _, d⟩
    · exact c (t0 x b)
    · exact d (by rw [t7]; exact lv x b)
  refine ⟨⟨⟨⟨by rw [t7]; exact l0, by rw [t7, t2]; decide, by rw [t7]; exact (t3 0 n0).2.2⟩, fun n hn => ?_, fun n hn _ => ⟨(t3 n hn).1, (t3 n hn).2.2⟩, fun n hn => ?_, fun n x hn hx => ?_, fun n hn => ?_, fun x l h => absurd h (noal x l), fun x l h => absurd h List.not_mem_nil, List.nodup_nil, fun b hb => Or.inl (t0 b hb)⟩, ⟨fun m hm => Or.inl (t3 m hm).2.1, fun m hm _ => ?_⟩, fun m hm => ?_, fun h => ?_⟩, ⟨?_, fun n a b => ?_, fun n hn => ?_, fun n k hn k0 k1 => ?_, fun b hb => ?_, fun b k hb hne => absurd (t0 b hb) hne, ?_, ?_⟩, ?_⟩
  · by_cases c : n = 0
    · right; rw [c, t7, t2]; decide
    · left; exact t2' n hn c
  · have := lv n hn
    subst this
    rw [(t3 0 n0).1, t7, t2]
    exact ⟨by decide, by decide, Or.inr ⟨fun h => absurd rfl h, fun h => absurd h (by decide)⟩⟩
  · have := lv n hn
    subst this
    rw [hk] at hx
    exact absurd hx List.not_mem_nil
  · have := lv n hn
    subst this
    rw [hk]
    exact List.nodup_nil
  · have := lv m hm
    subst this
    unfold loc
    rw [(t3 0 n0).1, (t3 0 n0).2.1]
    rfl
  · rw [(t3 m hm.1).1]; decide
  · rw [t7, t2] at h; exact absurd h (by decide)
  · rw [m0, t7, if_neg (by omega)]
  · rw [m0]
    by_cases c : n < 32
    · rw [if_pos c]
      by_cases e : n = 0
      · rw [e, t2, if_neg (by omega)]
      · rw [t2' n ⟨a, c⟩ e, if_pos (by omega)]
    · rw [if_neg c, if_pos (by omega)]
  · have := lv n hn
    subst this
    rw [m0, (t3 0 n0).1, if_neg (by omega)]
  · rw [(t3 n hn.1).1] at k1; omega
  · have := hb.1; have := hb.2
    rw [m0, t0 b hb, if_pos rfl, if_neg (by omega)]
  · rw [m0, t8, if_neg (by omega)]
  · rw [m0, t9, if_neg (by omega)]
  · rw [m0, t10, if_neg (by omega)]
theorem init_RR : ∀ sT sU sH0 sH1 sH2 sH3 sM : jx_St, PTd sT → PTd sU → PTd sH0 → PTd sH1 → PTd sH2 → PTd sH3 → PMd sM → RRd (fun _ _ => 0) sT (fun _ _ => 0) (fun _ _ => 0) sU (fun _ _ => 0) (fun _ _ => 0) (fun _ _ => 0) sH0 sH1 sH2 sH3 (fun _ _ => 0) sM := by
  intro sT sU sH0 sH1 sH2 sH3 sM hT _ _ _ _ _ hM
  have mz := hM.2
  refine ⟨init_RT hT hM, ⟨mz 20 0 (by decide), Int.le_refl _, by decide, fun j j0 j1 => ?_⟩, ⟨mz 6 0 (by decide), Int.le_refl _, by decide, fun j j0 j1 => ?_⟩, ⟨Int.le_refl _, by decide, Int.le_refl _, by decide, mz 4 0 (by decide), by rw [mz 5 0 (by decide)]; rfl, fun i i0 i1 => ?_⟩⟩
  · have : j < 0 := j1
    omega
  · have : j < 0 := j1
    omega
  · have : i < 0 := i1
    omega
