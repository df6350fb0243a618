theorem p_isPoint_t {Q : Int → Prop} {v : Int} (h0 : 0 ≤ v ∧ v ≤ 99) (h : Q 1) : wp_B_isPoint Q v := p_upTo_t h0.1 h0.2 (R_lit 99 (by decide)) ⟨Or.inr rfl, h⟩
theorem p_isPoint_f {Q : Int → Prop} {v : Int} (h0 : ¬ (0 ≤ v ∧ v ≤ 99)) (hv : jx_R v) (h : Q 0) : wp_B_isPoint Q v := p_upTo_f h0 hv (R_lit 99 (by decide)) ⟨Or.inl rfl, h⟩
theorem p_isWindow_t {Q : Int → Prop} {a b c d : Int} (hw : Wn a b c d) (h : Q 1) : wp_B_isWindow Q a b c d := by
  obtain ⟨h1, h2, h3, h4, h5, h6⟩ := hw
  refine p_isPoint_t ⟨h1, by omega⟩ (c1 (p_isPoint_t ⟨h2, by omega⟩ (c1 (p_isPoint_t ⟨by omega, h5⟩ (c1 (p_isPoint_t ⟨by omega, h6⟩ (c1 ?_)))))))
  exact ⟨jx_inR (by omega) (by omega), jx_inR (by omega) (by omega), fun _ => ⟨jx_inR (by omega) (by omega), jx_inR (by omega) (by omega), fun _ => h, fun z => absurd h4 z⟩, fun z => absurd h3 z⟩
theorem p_isWindow_f {Q : Int → Prop} {a b c d : Int} (hw : ¬ Wn a b c d) (ra : jx_R a) (rb : jx_R b) (rc : jx_R c) (rd : jx_R d) (h : Q 0) : wp_B_isWindow Q a b c d := by
  by_cases k1 : 0 ≤ a ∧ a ≤ 99
  · refine p_isPoint_t k1 (c1 ?_)
    by_cases k2 : 0 ≤ b ∧ b ≤ 99
    · refine p_isPoint_t k2 (c1 ?_)
      by_cases k3 : 0 ≤ c ∧ c ≤ 99
      · refine p_isPoint_t k3 (c1 ?_)
        by_cases k4 : 0 ≤ d ∧ d ≤ 99
        · refine p_isPoint_t k4 (c1 ⟨ra, rc, fun z => ⟨rb, rd, fun y => absurd ⟨k1.1, k2.1, z, y, k3.2, k4.2⟩ hw, fun _ => h⟩, fun _ => h⟩)
        · exact p_isPoint_f k4 rd (c0 h)
      · exact p_isPoint_f k3 rc (c0 h)
    · exact p_isPoint_f k2 rb (c0 h)
  · exact p_isPoint_f k1 ra (c0 h)
/-- the boxes that touch a window -/
def tbF (σ : jx_St) (w : Int) : Nat → Int
  | 0 => 0
  | k + 1 => if toF (σ 0 (k : Int)) w = 0 then tbF σ w k else jx_or (tbF σ w k) (jx_shl 1 (k : Int))
theorem tbF_R (σ : jx_St) (w : Int) (k : Nat) : jx_R (tbF σ w k) := by
  induction k with
  | zero => exact R_lit 0 (by decide)
  | succ k ih =>
    simp only [tbF]
    split
    · exact ih
    · exact rr_or _ _
theorem tbF_succ {σ : jx_St} {w i : Int} (h : 0 ≤ i) : tbF σ w (i + 1).toNat = if toF (σ 0 i) w = 0 then tbF σ w i.toNat else jx_or (tbF σ w i.toNat) (jx_shl 1 i) := by
  rw [show (i + 1).toNat = i.toNat + 1 by omega]
  simp only [tbF]
  rw [toNat_cast h]
theorem or_0 {x : Int} (h : jx_R x) : jx_or x 0 = x := by
  unfold jx_or
  have : jx_i 0 = 0 := rfl
  rw [this, Int32.or_zero, jx_toInt h]
theorem p_boxesTouching {Q : Int → Prop} {σ : jx_St} {w : Int} (hI : Inv σ) (wR : jx_R w) (h : Q (tbF σ w 31)) : wp_T_boxesTouching Q σ w := by
  refine jx_loop (fun v => 0 ≤ v.2 ∧ v.2 ≤ 31 ∧ v.1 = tbF σ w v.2.toNat) (fun v => (31 - v.2).toNat) (fun B v hJ hB => ?_) ⟨Int.le_refl _, by dsimp only; omega, rfl⟩
  obtain ⟨a, i⟩ := v
  obtain ⟨a1, a2, a3⟩ := hJ
  dsimp only at a1 a2 a3 ⊢
  refine ⟨jx_inR (by omega) (by omega), fun q => ?_, fun q => ?_⟩
  · have hb : nb i := ⟨a1, q⟩
    refine p_hull (R_lit 0 (by decide)) (by unfold tv; rw [if_pos rfl]; exact hb) ?_
    rw [hv_0]
    refine p_touch (hI.bR hb) wR ⟨toF_R _ _, fun c => hB _ ⟨by dsimp only; omega, by dsimp only; omega, ?_⟩ (by dsimp only; omega), fun c => hB _ ⟨by dsimp only; omega, by dsimp only; omega, ?_⟩ (by dsimp only; omega)⟩
    · dsimp only; rw [tbF_succ a1, if_pos c, a3]
    · dsimp only; rw [tbF_succ a1, if_neg c, a3]
  · rw [a3, show i = 31 by omega]; exact h
