def wp_T_init (Q : jx_St → Prop) (sT : jx_St) : Prop :=
  wp_T_newNode (fun r112 sT_112 => Q (jx_su sT_112 7 0 r112)) (jx_fill (jx_fill (jx_fill (jx_fill (jx_fill (jx_fill sT 0 31 (-1)) 1 31 (-1)) 2 32 (-1)) 4 32 (-1)) 5 32 (-1)) 6 160 (-1)) 0
def wp_M_init_173 (Q : jx_St → Prop) (B173 : jx_St × Int → Prop) (sM : jx_St) (l1 : Int) : Prop :=
  jx_R l1 ∧ ((l1 < 40 → jx_B (159 + l1) 439 ∧ (B173 ((jx_su sM 0 (159 + l1) (-1)), (l1 + 1)))) ∧ (¬ l1 < 40 → Q sM))
def wp_M_init (Q : jx_St → Prop) (sM : jx_St) : Prop :=
  jx_lp (fun B173v v173 => wp_M_init_173 Q B173v v173.1 v173.2) (sM, 1)
