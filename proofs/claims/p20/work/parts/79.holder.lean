/-! ===== the pure part: who has a thing, in the reference ===== -/
theorem m_placeIn_no {Q : Int → Prop} {σ μ : jx_St} {n x : Int} (hA : Ag σ μ) (hn : lvn σ n) (h0 : 0 ≤ σ 3 n) (hs : σ 3 n ≤ 5) (hx : jx_R x) (ht : ∀ k, 0 ≤ k → k < σ 3 n → jx_R (th σ n k)) (hf : x ∉ kids σ n) (h : Q (-1)) : wp_M_placeIn Q μ n x := by
  refine jx_loop (fun v => 0 ≤ v ∧ v ≤ σ 3 n) (fun v => (σ 3 n - v).toNat) (fun B v hI hB => ?_) ⟨Int.le_refl _, h0⟩
  obtain ⟨a1, a2⟩ := hI
  refine m_manyOf hA hn ⟨jx_inR (by omega) (by omega), jx_inR (by omega) (by omega), fun q => m_thing hA hn hs a1 q ⟨ht v a1 q, hx, fun e => absurd ?_ hf, fun _ => hB _ ⟨by omega, by omega⟩ (by omega)⟩, fun _ => h⟩
  rw [← e]; exact th_kids a1 q
theorem m_holder {Q : Int → Prop} {σ μ : jx_St} {P : List (Int × Int)} {E : List Int} {n x l : Int} (hW : Ws σ P E) (hA : Ag σ μ) (hn : lvn σ n) (hl : σ 2 n = l) (hx : x ∈ kids σ n) (hxR : jx_R x) (h : Q n) : wp_M_holder Q μ x l := by
  subst hl
  have hS := hW.sh
  refine jx_loop (fun v => 0 ≤ v ∧ v ≤ n) (fun v => (40 - v).toNat) (fun B v hI hB => ?_) ⟨Int.le_refl _, hn.1.1⟩
  obtain ⟨a1, a2⟩ := hI
  have n2 := hn.1.2
  have n0 := hn.1.1
  have hv : nd v := ⟨a1, by omega⟩
  have lR := hW.R2 hn
  have vR : jx_R (σ 2 v) := by
    rcases hW.2.1 v hv with z | z
    · rw [z]; exact jx_inR (by decide) (by decide)
    · exact jx_inR (by omega) (by have := hW.1.2.1; omega)
  have hne : v ≠ n → B (v + 1) := fun z => hB _ ⟨by omega, by omega⟩ (by omega)
  refine ⟨jx_inR (by omega) (by omega), fun _ => m_level hA hv ⟨vR, lR, fun e => ?_, fun e => hne (fun z => e (by rw [z]))⟩, fun q => absurd (show v < 40 by omega) q⟩
  have lv : lvn σ v := ⟨hv, by rw [e]; exact hn.2⟩
  have s5 := hS.1 v lv
  by_cases z : v = n
  · obtain ⟨k, k0, k1, ke⟩ := mem_kids.mp hx
    rw [z] at s5 ⊢
    refine m_placeIn hA hn s5.2.1 hxR (fun k a b => hW.th_R hn a b) k0 k1 ke (fun j j0 j1 e => ?_) ⟨jx_inR (by omega) (by omega), fun y => absurd y (by omega), fun _ => h⟩
    have := nodup_th (hW.2.2.2.2.2.1 n hn) j0 (by omega) k0 k1 (e.trans ke.symm)
    omega
  · refine m_placeIn_no hA lv s5.1 s5.2.1 hxR (fun k a b => hW.th_R lv a b) (fun hk => z ?_) ⟨jx_inR (by decide) (by decide), fun _ => hne z, fun y => absurd (by decide) y⟩
    have e1 := (hW.2.2.2.2.1 v x lv hk).2.1
    have e2 := (hW.2.2.2.2.1 n x hn hx).2.1
    rw [e] at e1
    omega
