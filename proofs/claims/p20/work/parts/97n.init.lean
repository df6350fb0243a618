def PTd (τ : jx_St) : Prop := (∀ b, nb b → τ 0 b = -1) ∧ τ 2 0 = 0 ∧ (∀ n, nd n → n ≠ 0 → τ 2 n = -1) ∧ (∀ n, nd n → τ 3 n = 0 ∧ τ 4 n = -1 ∧ τ 5 n = -1) ∧ τ 7 0 = 0 ∧ τ 8 0 = 0 ∧ τ 9 0 = 0 ∧ τ 10 0 = 0
theorem fill_ne {σ : jx_St} {k n : Nat} {v i : Int} {z : Nat} (h : z ≠ k) : jx_fill σ k n v z i = σ z i := by unfold jx_fill; rw [if_neg (fun y => h y.1)]
theorem fill_in {σ : jx_St} {k n : Nat} {v i : Int} (h0 : 0 ≤ i) (h1 : i < (n : Int)) : jx_fill σ k n v k i = v := by unfold jx_fill; rw [if_pos ⟨rfl, h0, h1⟩]
theorem init_T : ∀ sT : jx_St, sT = (fun _ _ => 0) → wp_T_init PTd sT := by
  intro sT hs
  generalize hσ : (jx_fill (jx_fill (jx_fill (jx_fill (jx_fill (jx_fill sT 0 31 (-1)) 1 31 (-1)) 2 32 (-1)) 4 32 (-1)) 5 32 (-1)) 6 160 (-1)) = σ
  have f0 : ∀ b, nb b → σ 0 b = -1 := fun b hb => by
    rw [← hσ, fill_ne (by decide), fill_ne (by decide), fill_ne (by decide), fill_ne (by decide), fill_ne (by decide), fill_in hb.1 hb.2]
  have f2 : ∀ n, nd n → σ 2 n = -1 := fun n hn => by
    rw [← hσ, fill_ne (by decide), fill_ne (by decide), fill_ne (by decide), fill_in hn.1 hn.2]
  have f4 : ∀ n, nd n → σ 4 n = -1 := fun n hn => by
    rw [← hσ, fill_ne (by decide), fill_ne (by decide), fill_in hn.1 hn.2]
  have f5 : ∀ n, nd n → σ 5 n = -1 := fun n hn => by
    rw [← hσ, fill_ne (by decide), fill_in hn.1 hn.2]
  have fz : ∀ z i, z ≠ 0 → z ≠ 1 → z ≠ 2 → z ≠ 4 → z ≠ 5 → z ≠ 6 → σ z i = 0 := fun z i z0 z1 z2 z4 z5 z6 => by
    rw [← hσ, fill_ne z6, fill_ne z5, fill_ne z4, fill_ne z2, fill_ne z1, fill_ne z0, hs]
  have n0 : nd 0 := ⟨Int.le_refl _, by decide⟩
  have e : ∀ z i, z ≠ 2 → z ≠ 7 → jx_su (jx_su σ 2 0 0) 7 0 0 z i = σ z i := fun z i z2 z7 => by rw [jx_su_ne z7, jx_su_ne z2]
  unfold wp_T_init
  rw [hσ]
  refine p_newNode (f := 0) n0 (f2 0 n0) (fun j j0 j1 => by omega) ?_
  refine ⟨fun b hb => by rw [e 0 b (by decide) (by decide)]; exact f0 b hb, by rw [jx_su_ne (by decide), jx_su_eq], fun n hn hne => by rw [jx_su_ne (by decide), jx_su_same, if_neg hne]; exact f2 n hn, fun n hn => ⟨by rw [e 3 n (by decide) (by decide)]; exact fz 3 n (by decide) (by decide) (by decide) (by decide) (by decide) (by decide), by rw [e 4 n (by decide) (by decide)]; exact f4 n hn, by rw [e 5 n (by decide) (by decide)]; exact f5 n hn⟩, jx_su_eq, by rw [e 8 0 (by decide) (by decide)]; exact fz 8 0 (by decide) (by decide) (by decide) (by decide) (by decide) (by decide), by rw [e 9 0 (by decide) (by decide)]; exact fz 9 0 (by decide) (by decide) (by decide) (by decide) (by decide) (by decide), by rw [e 10 0 (by decide) (by decide)]; exact fz 10 0 (by decide) (by decide) (by decide) (by decide) (by decide) (by decide)⟩
