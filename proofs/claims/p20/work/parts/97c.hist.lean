def hst (h0 h1 h2 h3 : jx_St) (s : Int) : jx_St := if s = 0 then h0 else if s = 1 then h1 else if s = 2 then h2 else h3
set_option maxRecDepth 100000 in
theorem rem4_fin : ∀ a : Fin 12, jx_rem ((a.val : Nat) : Int) 4 = ((a.val : Nat) : Int) % 4 := by decide
theorem rem4 {a : Int} (h0 : 0 ≤ a) (h1 : a < 12) : jx_rem a 4 = a % 4 := by
  have := rem4_fin ⟨a.toNat, by omega⟩
  simp only [Int.toNat_of_nonneg h0] at this
  exact this
theorem p_stateAt {Q : Int → Prop} {η : jx_St} {i : Int} (i0 : 0 ≤ i) (i1 : i ≤ 4) (h0 : 0 ≤ η 1 0) (h1 : η 1 0 < 4) (h : Q ((η 1 0 + i) % 4)) : wp_H_stateAt Q η i := by
  have e := rem4 (a := η 1 0 + i) (by omega) (by omega)
  have iR : jx_R i := jx_inR (by omega) (by omega)
  unfold wp_H_stateAt
  rw [e]
  have sR : jx_R ((η 1 0 + i) % 4) := jx_inR (by omega) (by omega)
  exact ⟨iR, fun z => absurd z (by omega), fun _ => ⟨sR, fun z => absurd z (by omega), fun _ => ⟨sR, fun _ => ⟨⟨by omega, by show (η 1 0 + i) % 4 < 4; omega⟩, h⟩, fun z => absurd (show (η 1 0 + i) % 4 < 4 by omega) z⟩⟩⟩
theorem p_record_30 {Q : jx_St → jx_St → jx_St → jx_St → jx_St → Prop} {σ η h0 h1 h2 h3 : jx_St} (o0 : 0 ≤ η 1 0) (o1 : η 1 0 < 4) (k0 : 0 ≤ η 2 0) (k1 : η 2 0 ≤ 3) (h : ∀ t0 t1 t2 t3 τ, Er σ τ → (∀ j, 0 ≤ j → j < 4 → hst t0 t1 t2 t3 j = if j = (η 1 0 + η 2 0) % 4 then τ else hst h0 h1 h2 h3 j) → Q (jx_su η 2 0 (η 2 0 + 1)) t0 t1 t2 t3) : wp_H_record_30 Q σ η h0 h1 h2 h3 := by
  refine p_stateAt k0 (by omega) o0 o1 ?_
  have sb : 0 ≤ (η 1 0 + η 2 0) % 4 ∧ (η 1 0 + η 2 0) % 4 < 4 := by omega
  generalize (η 1 0 + η 2 0) % 4 = s at h sb
  refine ⟨fun e => ?_, fun e => p_copy (fun τ ht => h τ h1 h2 h3 τ ht (fun j j0 j1 => ?_)), fun e => p_copy (fun τ ht => h h0 τ h2 h3 τ ht (fun j j0 j1 => ?_)), fun e => p_copy (fun τ ht => h h0 h1 τ h3 τ ht (fun j j0 j1 => ?_)), fun e => p_copy (fun τ ht => h h0 h1 h2 τ τ ht (fun j j0 j1 => ?_))⟩
  · exact absurd e (by omega)
  · rw [e]; unfold hst
    by_cases y : j = 0
    · rw [if_pos y, if_pos y]
    · rw [if_neg y, if_neg y, if_neg y]
  · rw [e]; unfold hst
    by_cases y : j = 0
    · rw [if_pos y, if_neg (by omega), if_pos y]
    · by_cases y1 : j = 1
      · rw [if_neg y, if_pos y1, if_pos y1]
      · rw [if_neg y, if_neg y1, if_neg y1, if_neg y, if_neg y1]
  · rw [e]; unfold hst
    by_cases y : j = 0
    · rw [if_pos y, if_neg (by omega), if_pos y]
    · by_cases y1 : j = 1
      · rw [if_neg y, if_pos y1, if_neg (by omega), if_neg y, if_pos y1]
      · by_cases y2 : j = 2
        · rw [if_neg y, if_neg y1, if_pos y2, if_pos y2]
        · rw [if_neg y, if_neg y1, if_neg y2, if_neg y2, if_neg y, if_neg y1, if_neg y2]
  · rw [e]; unfold hst
    by_cases y : j = 0
    · rw [if_pos y, if_neg (by omega), if_pos y]
    · by_cases y1 : j = 1
      · rw [if_neg y, if_pos y1, if_neg (by omega), if_neg y, if_pos y1]
      · by_cases y2 : j = 2
        · rw [if_neg y, if_neg y1, if_pos y2, if_neg (by omega), if_neg y, if_neg y1, if_pos y2]
        · rw [if_neg y, if_neg y1, if_neg y2, if_pos (by omega)]
def RecC (σ η h0 h1 h2 h3 η' t0 t1 t2 t3 : jx_St) : Prop := ∃ (o c : Int) (τ : jx_St), (0 ≤ o ∧ o < 4 ∧ 0 ≤ c ∧ c ≤ 3) ∧ η' 1 0 = o ∧ η' 2 0 = c + 1 ∧ Er σ τ ∧ (∀ j, 0 ≤ j → j < 4 → hst t0 t1 t2 t3 j = if j = (o + c) % 4 then τ else hst h0 h1 h2 h3 j) ∧ (o + c) % 4 = (η 1 0 + η 2 0) % 4 ∧ c + 1 = (if η 2 0 < 4 then η 2 0 + 1 else 4) ∧ ∀ i, 0 ≤ i → i < c → ∃ i', 0 ≤ i' ∧ i' < η 2 0 ∧ (η 1 0 + i') % 4 = (o + i) % 4
theorem p_recordS {Q : jx_St → jx_St → jx_St → jx_St → jx_St → Prop} {σ η h0 h1 h2 h3 : jx_St} (o0 : 0 ≤ η 1 0) (o1 : η 1 0 < 4) (k0 : 0 ≤ η 2 0) (k1 : η 2 0 ≤ 4) (h : ∀ η' t0 t1 t2 t3, RecC σ η h0 h1 h2 h3 η' t0 t1 t2 t3 → Q η' t0 t1 t2 t3) : wp_H_record Q σ η h0 h1 h2 h3 := by
  have core : ∀ (o c : Int) (η' : jx_St), 0 ≤ o → o < 4 → 0 ≤ c → c ≤ 3 → η' 1 0 = o → η' 2 0 = c → (o + c) % 4 = (η 1 0 + η 2 0) % 4 → c + 1 = (if η 2 0 < 4 then η 2 0 + 1 else 4) → (∀ i, 0 ≤ i → i < c → ∃ i', 0 ≤ i' ∧ i' < η 2 0 ∧ (η 1 0 + i') % 4 = (o + i) % 4) → wp_H_record_30 Q σ η' h0 h1 h2 h3 := by
    intro o c η' p0 p1 p2 p3 p4 p5 p6 p7 p8
    refine p_record_30 (by rw [p4]; exact p0) (by rw [p4]; exact p1) (by rw [p5]; exact p2) (by rw [p5]; exact p3) (fun t0 t1 t2 t3 τ ht hj => ?_)
    rw [p4, p5] at hj
    exact h _ t0 t1 t2 t3 ⟨o, c, τ, ⟨p0, p1, p2, p3⟩, by rw [jx_su_ne (by decide), p4], by rw [jx_su_eq, p5], ht, hj, p6, p7, p8⟩
  refine ⟨jx_inR (by omega) (by omega), fun q => ?_, fun q => ?_⟩
  · have r1 := rem4 (a := η 1 0 + 1) (by omega) (by omega)
    refine core ((η 1 0 + 1) % 4) 3 _ (by omega) (by omega) (by decide) (by decide) (by rw [jx_su_ne (by decide), jx_su_eq, r1]) (by rw [jx_su_eq, jx_su_ne (by decide), q]; rfl) (by rw [q]; omega) (by rw [q]; rfl) (fun i i0 i1 => ⟨i + 1, by omega, by omega, by omega⟩)
  · exact core (η 1 0) (η 2 0) η o0 o1 k0 (by omega) rfl rfl rfl (by rw [if_pos (by omega)]) (fun i i0 i1 => ⟨i, i0, i1, rfl⟩)
