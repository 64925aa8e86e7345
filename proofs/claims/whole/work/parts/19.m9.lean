def wp_X11_go_L36 (Qf_7 : KQ) (f0_7 : Nat) (f1_7 : Int32) (post : Int32 → KI → Prop) : Nat → KI → Int32 → Prop
  | 0, _, _ => False
  | n36 + 1, I_7, x2_7 => ((f1_7 ≤ x2_7 → post x2_7 I_7) ∧ (¬ f1_7 ≤ x2_7 → wp_X11_whole I_7 Qf_7 f0_7 (fun r9 => (((I_7 (rq Qf_7 f0_7 0) (0 : Int32).toNatClampNeg) ≤ r9 → post x2_7 I_7) ∧ (¬ (I_7 (rq Qf_7 f0_7 0) (0 : Int32).toNatClampNeg) ≤ r9 → wp_X11_goes I_7 Qf_7 f0_7 (fun I12 => wp_X11_go_L36 Qf_7 f0_7 f1_7 post n36 I12 (x2_7 + (1 : Int32))))))))
def wp_X11_go (I : KI) (Q : KQ) (h0 : Nat) (x1 : Int32) (post : Int32 → KI → Prop) : Prop := wp_X11_in (x1.toInt64) (1 : Int64) (20 : Int64) (fun r1 => ((¬ r1 = 0 → wp_X11_whole I Q h0 (fun r3 => ((¬ r3 = (I (rq Q h0 0) (0 : Int32).toNatClampNeg) → wp_X11_remembers I Q h0 (fun I6 => (∃ q36, wp_X11_go_L36 Q h0 x1 post q36 I6 (0 : Int32)))) ∧ (r3 = (I (rq Q h0 0) (0 : Int32).toNatClampNeg) → post (-2 : Int32) I)))) ∧ (r1 = 0 → post (-1 : Int32) I)))
set_option maxHeartbeats 4000000 in
set_option maxRecDepth 100000 in
theorem met_X11_go {Z : Nat → Prop} {A : Nat → Prop} {D : va_G} {D2 : Nat → ClassId} {ad : Nat → Nat} {N : Nat} {T : Nat → Nat × Nat} (l : Launch) {I : KI} {J : KJ} {Q : KQ} {h0 : Nat} {x1 : Int32} {post : Int32 → KI → Prop} (hWF : WF Z N T Q) (z0 : OKr Z N T h0 (11, 0)) (hw : wp_X11_go I Q h0 x1 post) : Met l yX11_go (.code yX11_go cX11_go 3 (some .int) :: BIG) ({ frames := 7, cells := 0, slots := 0, locals := 163 }) (Pr D D2 A ad N T I J Q [.ref (ad h0), .int x1]) (va_Qi (fun (r : Int32) (u : KS) => post r u.1 ∧ u.2.1 = J ∧ u.2.2 = Q ∧ WF Z N T u.2.2) (Bw D D2 ad N T) A) 0 0 A := by
  refine Met_GG (lv0 := [(0, .ref (ad h0)), (1, .int x1)]) (by decide +kernel) [.ref (ad h0), .int x1] (Nat.le_of_ble_eq_true rfl) rfl ?_
  intro p e s m below meth c C hr
  have C : CX p s m [.ref (ad h0), .int x1].toArray meth c cX11_go 3 RX11 A D D2 := C
  unfold wp_X11_go at hw
  refine g_iload_n C dX11_go_0 rfl 1 rfl ?_
  refine g_i2l C dX11_go_1 ?_
  refine g_lconst (v := (1 : Int64)) C dX11_go_2 (by decide) ?_
  refine g_ldc2 C dX11_go_3 ft_442 ?_
  refine g_callSi (As := [.long (x1.toInt64), .long (1 : Int64), .long (20 : Int64)]) C dX11_go_6 ft_397 ft_398 (met_X11_in l hWF  hw) ⟨rfl, rfl, Nat.le_of_ble_eq_true rfl, Nat.le_of_ble_eq_true rfl⟩ ⟨Nat.zero_le _, Nat.zero_le _⟩ rfl rfl (Nat.le_of_ble_eq_true rfl) (fun r1 I1 J1 Q1 hp => ?_)
  obtain ⟨hw, eI, eJ, eQ, hWF⟩ := hp
  have eI : I = I1 := Eq.symm eI
  subst eI
  have eJ : J = J1 := Eq.symm eJ
  subst eJ
  have eQ : Q = Q1 := Eq.symm eQ
  subst eQ
  try dsimp only at hw hWF
  refine g_if_ne (tgt := 14) C dX11_go_9 (by decide) (fun c2 => ?_) (fun c2 => ?_)
  · have hw := hw.1 c2
    refine g_aload_n C dX11_go_14 rfl 0 rfl ?_
    refine g_callVi (As := []) C dX11_go_15 ft_387 z0 ft_440 ft_441 (met_X11_whole l hWF z0 hw) ⟨rfl, rfl, Nat.le_of_ble_eq_true rfl, Nat.le_of_ble_eq_true rfl⟩ ⟨Nat.zero_le _, Nat.zero_le _⟩ rfl rfl (Nat.le_of_ble_eq_true rfl) (fun r3 I3 J3 Q3 hp => ?_)
    obtain ⟨hw, eI, eJ, eQ, hWF⟩ := hp
    have eI : I = I3 := Eq.symm eI
    subst eI
    have eJ : J = J3 := Eq.symm eJ
    subst eJ
    have eQ : Q = Q3 := Eq.symm eQ
    subst eQ
    try dsimp only at hw hWF
    refine g_aload_n C dX11_go_18 rfl 0 rfl ?_
    refine g_getQ C dX11_go_19 ft_363 z0 (hWF.q z0 0 rfl) ?_
    have zz4 := hWF.r z0 0 rfl
    refine g_iconst (v := (0 : Int32)) C dX11_go_22 (by decide) ?_
    refine g_iald C dX11_go_23 zz4 (vp_lit (by decide +kernel)) ?_
    refine g_icmp_ne (tgt := 30) C dX11_go_24 (by decide) (fun c5 => ?_) (fun c5 => ?_)
    · have hw := hw.1 c5
      refine g_aload_n C dX11_go_30 rfl 0 rfl ?_
      refine g_callVv (As := []) C dX11_go_31 ft_387 z0 ft_430 ft_431 (met_X11_remembers l hWF z0 hw) ⟨rfl, rfl, Nat.le_of_ble_eq_true rfl, Nat.le_of_ble_eq_true rfl⟩ ⟨Nat.zero_le _, Nat.zero_le _⟩ rfl rfl (Nat.le_of_ble_eq_true rfl) (fun I6 J6 Q6 hp => ?_)
      obtain ⟨hw, eJ, eQ, hWF⟩ := hp
      have eJ : J = J6 := Eq.symm eJ
      subst eJ
      have eQ : Q = Q6 := Eq.symm eQ
      subst eQ
      try dsimp only at hw hWF
      refine g_iconst (v := (0 : Int32)) C dX11_go_34 (by decide) ?_
      refine g_istore_n (lv' := [(2, .int (0 : Int32)), (0, .ref (ad h0)), (1, .int x1)]) C dX11_go_35 rfl (by decide) rfl ?_
      have L36_u13 : ∀ (n36 : Nat) (I_7 : KI) (x2_7 : Int32), wp_X11_go_L36 Q h0 x1 post n36 I_7 x2_7 → WF Z N T Q → GG p l e ({ frames := 7, cells := 0, slots := 0, locals := 163 }) s m [.ref (ad h0), .int x1].toArray below meth c 3 A D D2 0 0 (MQ below (va_Qi (fun (r : Int32) (u : KS) => post r u.1 ∧ u.2.1 = J ∧ u.2.2 = Q ∧ WF Z N T u.2.2) (Bw D D2 ad N T) A) [.ref (ad h0), .int x1].toArray s 0 0 A) ad N T I_7 J Q 36 [(0, .ref (ad h0)), (1, .int x1), (2, .int x2_7)] [] := by
        intro n36
        induction n36 with
        | zero => intro I_7 x2_7 hw; exact hw.elim
        | succ n36 ih_u13 =>
          intro I_7 x2_7 hw hWF
          unfold wp_X11_go_L36 at hw
          refine g_iload_n C dX11_go_36 rfl 2 rfl ?_
          refine g_iload_n C dX11_go_37 rfl 1 rfl ?_
          refine g_icmp_ge (tgt := 64) C dX11_go_38 (by decide) (fun c15 => ?_) (fun c15 => ?_)
          · have hw := hw.1 c15
            refine g_iload_n C dX11_go_64 rfl 2 rfl ?_
            exact g_iret C dX11_go_65 hr ⟨hw, rfl, rfl, hWF⟩
          · have hw := hw.2 c15
            refine g_aload_n C dX11_go_41 rfl 0 rfl ?_
            refine g_callVi (As := []) C dX11_go_42 ft_387 z0 ft_440 ft_441 (met_X11_whole l hWF z0 hw) ⟨rfl, rfl, Nat.le_of_ble_eq_true rfl, Nat.le_of_ble_eq_true rfl⟩ ⟨Nat.zero_le _, Nat.zero_le _⟩ rfl rfl (Nat.le_of_ble_eq_true rfl) (fun r16 I16 J16 Q16 hp => ?_)
            obtain ⟨hw, eI, eJ, eQ, hWF⟩ := hp
            have eI : I_7 = I16 := Eq.symm eI
            subst eI
            have eJ : J = J16 := Eq.symm eJ
            subst eJ
            have eQ : Q = Q16 := Eq.symm eQ
            subst eQ
            try dsimp only at hw hWF
            refine g_aload_n C dX11_go_45 rfl 0 rfl ?_
            refine g_getQ C dX11_go_46 ft_363 z0 (hWF.q z0 0 rfl) ?_
            have zz17 := hWF.r z0 0 rfl
            refine g_iconst (v := (0 : Int32)) C dX11_go_49 (by decide) ?_
            refine g_iald C dX11_go_50 zz17 (vp_lit (by decide +kernel)) ?_
            refine g_icmp_ge (tgt := 64) C dX11_go_51 (by decide) (fun c18 => ?_) (fun c18 => ?_)
            · have hw := hw.1 c18
              refine g_iload_n C dX11_go_64 rfl 2 rfl ?_
              exact g_iret C dX11_go_65 hr ⟨hw, rfl, rfl, hWF⟩
            · have hw := hw.2 c18
              refine g_aload_n C dX11_go_54 rfl 0 rfl ?_
              refine g_callVv (As := []) C dX11_go_55 ft_387 z0 ft_443 ft_444 (met_X11_goes l hWF z0 hw) ⟨rfl, rfl, Nat.le_of_ble_eq_true rfl, Nat.le_of_ble_eq_true rfl⟩ ⟨Nat.zero_le _, Nat.zero_le _⟩ rfl rfl (Nat.le_of_ble_eq_true rfl) (fun I19 J19 Q19 hp => ?_)
              obtain ⟨hw, eJ, eQ, hWF⟩ := hp
              have eJ : J = J19 := Eq.symm eJ
              subst eJ
              have eQ : Q = Q19 := Eq.symm eQ
              subst eQ
              try dsimp only at hw hWF
              refine g_iinc (v := (x2_7 + (1 : Int32))) (lv' := [(2, .int (x2_7 + (1 : Int32))), (0, .ref (ad h0)), (1, .int x1)]) C dX11_go_58 (q := 2) rfl rfl (by decide) rfl ?_
              refine g_goto C dX11_go_61 (tgt := 36) (by decide) ?_
              refine g_sub [1, 2, 0] rfl ?_
              exact ih_u13 I19 (x2_7 + (1 : Int32)) hw hWF
      obtain ⟨n_u13, hw⟩ := hw
      refine g_sub [1, 2, 0] rfl ?_
      exact L36_u13 n_u13 I6 (0 : Int32) hw hWF
    · have hw := hw.2 c5
      refine g_bipush (v := (-2 : Int32)) C dX11_go_27 (by decide) ?_
      exact g_iret C dX11_go_29 hr ⟨hw, rfl, rfl, hWF⟩
  · have hw := hw.2 c2
    refine g_iconst (v := (-1 : Int32)) C dX11_go_12 (by decide) ?_
    exact g_iret C dX11_go_13 hr ⟨hw, rfl, rfl, hWF⟩
def wp_X11_worst_L16 (Qf_4 : KQ) (f0_4 : Nat) (f1_4 : Int32) (f2_4 : Int32) (k58 : KI → Prop) : Nat → KI → Int32 → Prop
  | 0, _, _ => False
  | n16 + 1, I_4, x3_4 => ((((1 : Int32) <<< (f1_4 &&& 31)) ≤ x3_4 → k58 I_4) ∧ (¬ ((1 : Int32) <<< (f1_4 &&& 31)) ≤ x3_4 → wp_X11_has x3_4 f2_4 (fun r7 => ((r7 = 0 → wp_X11_growth I_4 Qf_4 f0_4 f2_4 x3_4 (fun r9 I9 => (vp_in (((64 : Int32) * f2_4) + x3_4) 384 ∧ wp_X11_worst_L16 Qf_4 f0_4 f1_4 f2_4 k58 n16 (sti I9 (rq Qf_4 f0_4 14) (((64 : Int32) * f2_4) + x3_4).toNatClampNeg r9) (x3_4 + (1 : Int32))))) ∧ (¬ r7 = 0 → (vp_in (((64 : Int32) * f2_4) + x3_4) 384 ∧ wp_X11_worst_L16 Qf_4 f0_4 f1_4 f2_4 k58 n16 (sti I_4 (rq Qf_4 f0_4 14) (((64 : Int32) * f2_4) + x3_4).toNatClampNeg (0 : Int32)) (x3_4 + (1 : Int32))))))))
def wp_X11_worst_L9 (Qf_2 : KQ) (f0_2 : Nat) (f1_2 : Int32) (k64 : KI → Prop) : Nat → KI → Int32 → Prop
  | 0, _, _ => False
  | n9 + 1, I_2, x2_2 => ((f1_2 ≤ x2_2 → k64 I_2) ∧ (¬ f1_2 ≤ x2_2 → (∃ q16, wp_X11_worst_L16 Qf_2 f0_2 f1_2 x2_2 (fun I_11 => wp_X11_worst_L9 Qf_2 f0_2 f1_2 k64 n9 I_11 (x2_2 + (1 : Int32))) q16 I_2 (0 : Int32))))
def wp_X11_worst_L87 (If_22 : KI) (Qf_22 : KQ) (f0_22 : Nat) (f1_22 : Int32) (f3_22 : Int32) (k123 : Int32 → Prop) : Nat → Int32 → Int32 → Prop
  | 0, _, _ => False
  | n87 + 1, x4_22, x5_22 => ((f1_22 ≤ x5_22 → k123 x4_22) ∧ (¬ f1_22 ≤ x5_22 → wp_X11_linkedBy f3_22 x5_22 f1_22 (0 : Int32) (fun r25 => (vp_in (((64 : Int32) * x5_22) + r25) 384 ∧ wp_X11_worst_L87 If_22 Qf_22 f0_22 f1_22 f3_22 k123 n87 (x4_22 + (If_22 (rq Qf_22 f0_22 14) (((64 : Int32) * x5_22) + r25).toNatClampNeg)) (x5_22 + (1 : Int32))))))
def wp_X11_worst_L68 (If_20 : KI) (Qf_20 : KQ) (f0_20 : Nat) (f1_20 : Int32) (post : Int32 → KI → Prop) : Nat → Int32 → Int32 → Prop
  | 0, _, _ => False
  | n68 + 1, x2_20, x3_20 => ((((1 : Int32) <<< (((f1_20 * (f1_20 - (1 : Int32))) / (2 : Int32)) &&& 31)) ≤ x3_20 → post x2_20 If_20) ∧ (¬ ((1 : Int32) <<< (((f1_20 * (f1_20 - (1 : Int32))) / (2 : Int32)) &&& 31)) ≤ x3_20 → (∃ q87, wp_X11_worst_L87 If_20 Qf_20 f0_20 f1_20 x3_20 (fun x4_27 => ((x2_20 < 0 → wp_X11_areJoined If_20 Qf_20 f0_20 x3_20 (fun r29 => ((r29 = 0 → wp_X11_worst_L68 If_20 Qf_20 f0_20 f1_20 post n68 x2_20 (x3_20 + (1 : Int32))) ∧ (¬ r29 = 0 → wp_X11_worst_L68 If_20 Qf_20 f0_20 f1_20 post n68 x4_27 (x3_20 + (1 : Int32)))))) ∧ (¬ x2_20 < 0 → ((x2_20 ≤ x4_27 → wp_X11_worst_L68 If_20 Qf_20 f0_20 f1_20 post n68 x2_20 (x3_20 + (1 : Int32))) ∧ (¬ x2_20 ≤ x4_27 → wp_X11_areJoined If_20 Qf_20 f0_20 x3_20 (fun r32 => ((r32 = 0 → wp_X11_worst_L68 If_20 Qf_20 f0_20 f1_20 post n68 x2_20 (x3_20 + (1 : Int32))) ∧ (¬ r32 = 0 → wp_X11_worst_L68 If_20 Qf_20 f0_20 f1_20 post n68 x4_27 (x3_20 + (1 : Int32)))))))))) q87 (0 : Int32) (0 : Int32))))
def wp_X11_worst (I : KI) (Q : KQ) (h0 : Nat) (post : Int32 → KI → Prop) : Prop := (∃ q9, wp_X11_worst_L9 Q h0 (I (rq Q h0 0) (0 : Int32).toNatClampNeg) (fun I_19 => (∃ q68, wp_X11_worst_L68 I_19 Q h0 (I (rq Q h0 0) (0 : Int32).toNatClampNeg) post q68 (-1 : Int32) (0 : Int32))) q9 I (0 : Int32))
set_option maxHeartbeats 4000000 in
set_option maxRecDepth 100000 in
theorem met_X11_worst {Z : Nat → Prop} {A : Nat → Prop} {D : va_G} {D2 : Nat → ClassId} {ad : Nat → Nat} {N : Nat} {T : Nat → Nat × Nat} (l : Launch) {I : KI} {J : KJ} {Q : KQ} {h0 : Nat} {post : Int32 → KI → Prop} (hWF : WF Z N T Q) (z0 : OKr Z N T h0 (11, 0)) (hw : wp_X11_worst I Q h0 post) : Met l yX11_worst (.code yX11_worst cX11_worst 6 (some .int) :: BIG) ({ frames := 5, cells := 0, slots := 0, locals := 114 }) (Pr D D2 A ad N T I J Q [.ref (ad h0)]) (va_Qi (fun (r : Int32) (u : KS) => post r u.1 ∧ u.2.1 = J ∧ u.2.2 = Q ∧ WF Z N T u.2.2) (Bw D D2 ad N T) A) 0 0 A := by
  refine Met_GG (lv0 := [(0, .ref (ad h0))]) (by decide +kernel) [.ref (ad h0)] (Nat.le_of_ble_eq_true rfl) rfl ?_
  intro p e s m below meth c C hr
  have C : CX p s m [.ref (ad h0)].toArray meth c cX11_worst 6 RX11 A D D2 := C
  unfold wp_X11_worst at hw
  refine g_aload_n C dX11_worst_0 rfl 0 rfl ?_
  refine g_getQ C dX11_worst_1 ft_363 z0 (hWF.q z0 0 rfl) ?_
  have zz1 := hWF.r z0 0 rfl
  refine g_iconst (v := (0 : Int32)) C dX11_worst_4 (by decide) ?_
  refine g_iald C dX11_worst_5 zz1 (vp_lit (by decide +kernel)) ?_
  refine g_istore_n (lv' := [(1, .int (I (rq Q h0 0) (0 : Int32).toNatClampNeg)), (0, .ref (ad h0))]) C dX11_worst_6 rfl (by decide) rfl ?_
  refine g_iconst (v := (0 : Int32)) C dX11_worst_7 (by decide) ?_
  refine g_istore_n (lv' := [(2, .int (0 : Int32)), (1, .int (I (rq Q h0 0) (0 : Int32).toNatClampNeg)), (0, .ref (ad h0))]) C dX11_worst_8 rfl (by decide) rfl ?_
  have K64_u18 : ∀ (I_19 : KI), ((∃ q68, wp_X11_worst_L68 I_19 Q h0 (I (rq Q h0 0) (0 : Int32).toNatClampNeg) post q68 (-1 : Int32) (0 : Int32))) → WF Z N T Q → GG p l e ({ frames := 5, cells := 0, slots := 0, locals := 114 }) s m [.ref (ad h0)].toArray below meth c 6 A D D2 0 0 (MQ below (va_Qi (fun (r : Int32) (u : KS) => post r u.1 ∧ u.2.1 = J ∧ u.2.2 = Q ∧ WF Z N T u.2.2) (Bw D D2 ad N T) A) [.ref (ad h0)].toArray s 0 0 A) ad N T I_19 J Q 64 [(0, .ref (ad h0)), (1, .int (I (rq Q h0 0) (0 : Int32).toNatClampNeg))] [] := by
    intro I_19 hw hWF
    refine g_iconst (v := (-1 : Int32)) C dX11_worst_64 (by decide) ?_
    refine g_istore_n (lv' := [(2, .int (-1 : Int32)), (0, .ref (ad h0)), (1, .int (I (rq Q h0 0) (0 : Int32).toNatClampNeg))]) C dX11_worst_65 rfl (by decide) rfl ?_
    refine g_iconst (v := (0 : Int32)) C dX11_worst_66 (by decide) ?_
    refine g_istore_n (lv' := [(3, .int (0 : Int32)), (2, .int (-1 : Int32)), (0, .ref (ad h0)), (1, .int (I (rq Q h0 0) (0 : Int32).toNatClampNeg))]) C dX11_worst_67 rfl (by decide) rfl ?_
    have L68_u38 : ∀ (n68 : Nat) (x2_20 : Int32) (x3_20 : Int32), wp_X11_worst_L68 I_19 Q h0 (I (rq Q h0 0) (0 : Int32).toNatClampNeg) post n68 x2_20 x3_20 → WF Z N T Q → GG p l e ({ frames := 5, cells := 0, slots := 0, locals := 114 }) s m [.ref (ad h0)].toArray below meth c 6 A D D2 0 0 (MQ below (va_Qi (fun (r : Int32) (u : KS) => post r u.1 ∧ u.2.1 = J ∧ u.2.2 = Q ∧ WF Z N T u.2.2) (Bw D D2 ad N T) A) [.ref (ad h0)].toArray s 0 0 A) ad N T I_19 J Q 68 [(0, .ref (ad h0)), (1, .int (I (rq Q h0 0) (0 : Int32).toNatClampNeg)), (2, .int x2_20), (3, .int x3_20)] [] := by
      intro n68
      induction n68 with
      | zero => intro x2_20 x3_20 hw; exact hw.elim
      | succ n68 ih_u38 =>
        intro x2_20 x3_20 hw hWF
        unfold wp_X11_worst_L68 at hw
        refine g_iload_n C dX11_worst_68 rfl 3 rfl ?_
        refine g_iconst (v := (1 : Int32)) C dX11_worst_69 (by decide) ?_
        refine g_iload_n C dX11_worst_70 rfl 1 rfl ?_
        refine g_iload_n C dX11_worst_71 rfl 1 rfl ?_
        refine g_iconst (v := (1 : Int32)) C dX11_worst_72 (by decide) ?_
        refine g_isub C dX11_worst_73 ?_
        refine g_imul C dX11_worst_74 ?_
        refine g_iconst (v := (2 : Int32)) C dX11_worst_75 (by decide) ?_
        refine g_idiv C dX11_worst_76 (by decide) ?_
        refine g_ishl C dX11_worst_77 ?_
        refine g_icmp_ge (tgt := 154) C dX11_worst_78 (by decide) (fun c40 => ?_) (fun c40 => ?_)
        · have hw := hw.1 c40
          refine g_iload_n C dX11_worst_154 rfl 2 rfl ?_
          exact g_iret C dX11_worst_155 hr ⟨hw, rfl, rfl, hWF⟩
        · have hw := hw.2 c40
          refine g_iconst (v := (0 : Int32)) C dX11_worst_81 (by decide) ?_
          refine g_istore (lv' := [(4, .int (0 : Int32)), (0, .ref (ad h0)), (1, .int (I (rq Q h0 0) (0 : Int32).toNatClampNeg)), (2, .int x2_20), (3, .int x3_20)]) C dX11_worst_82 (by decide) rfl ?_
          refine g_iconst (v := (0 : Int32)) C dX11_worst_84 (by decide) ?_
          refine g_istore (lv' := [(5, .int (0 : Int32)), (4, .int (0 : Int32)), (0, .ref (ad h0)), (1, .int (I (rq Q h0 0) (0 : Int32).toNatClampNeg)), (2, .int x2_20), (3, .int x3_20)]) C dX11_worst_85 (by decide) rfl ?_
          have K123_u42 : ∀ (x4_43 : Int32), (((x2_20 < 0 → wp_X11_areJoined I_19 Q h0 x3_20 (fun r45 => ((r45 = 0 → wp_X11_worst_L68 I_19 Q h0 (I (rq Q h0 0) (0 : Int32).toNatClampNeg) post n68 x2_20 (x3_20 + (1 : Int32))) ∧ (¬ r45 = 0 → wp_X11_worst_L68 I_19 Q h0 (I (rq Q h0 0) (0 : Int32).toNatClampNeg) post n68 x4_43 (x3_20 + (1 : Int32)))))) ∧ (¬ x2_20 < 0 → ((x2_20 ≤ x4_43 → wp_X11_worst_L68 I_19 Q h0 (I (rq Q h0 0) (0 : Int32).toNatClampNeg) post n68 x2_20 (x3_20 + (1 : Int32))) ∧ (¬ x2_20 ≤ x4_43 → wp_X11_areJoined I_19 Q h0 x3_20 (fun r48 => ((r48 = 0 → wp_X11_worst_L68 I_19 Q h0 (I (rq Q h0 0) (0 : Int32).toNatClampNeg) post n68 x2_20 (x3_20 + (1 : Int32))) ∧ (¬ r48 = 0 → wp_X11_worst_L68 I_19 Q h0 (I (rq Q h0 0) (0 : Int32).toNatClampNeg) post n68 x4_43 (x3_20 + (1 : Int32)))))))))) → WF Z N T Q → GG p l e ({ frames := 5, cells := 0, slots := 0, locals := 114 }) s m [.ref (ad h0)].toArray below meth c 6 A D D2 0 0 (MQ below (va_Qi (fun (r : Int32) (u : KS) => post r u.1 ∧ u.2.1 = J ∧ u.2.2 = Q ∧ WF Z N T u.2.2) (Bw D D2 ad N T) A) [.ref (ad h0)].toArray s 0 0 A) ad N T I_19 J Q 123 [(0, .ref (ad h0)), (1, .int (I (rq Q h0 0) (0 : Int32).toNatClampNeg)), (2, .int x2_20), (3, .int x3_20), (4, .int x4_43)] [] := by
            intro x4_43 hw hWF
            refine g_iload_n C dX11_worst_123 rfl 2 rfl ?_
            refine g_if_lt (tgt := 133) C dX11_worst_124 (by decide) (fun c44 => ?_) (fun c44 => ?_)
            · have hw := hw.1 c44
              refine g_aload_n C dX11_worst_133 rfl 0 rfl ?_
              refine g_iload_n C dX11_worst_134 rfl 3 rfl ?_
              refine g_callVi (As := [.int x3_20]) C dX11_worst_135 ft_387 z0 ft_446 ft_447 (met_X11_areJoined l hWF z0 hw) ⟨rfl, rfl, Nat.le_of_ble_eq_true rfl, Nat.le_of_ble_eq_true rfl⟩ ⟨Nat.zero_le _, Nat.zero_le _⟩ rfl rfl (Nat.le_of_ble_eq_true rfl) (fun r45 I45 J45 Q45 hp => ?_)
              obtain ⟨hw, eI, eJ, eQ, hWF⟩ := hp
              have eI : I_19 = I45 := Eq.symm eI
              subst eI
              have eJ : J = J45 := Eq.symm eJ
              subst eJ
              have eQ : Q = Q45 := Eq.symm eQ
              subst eQ
              try dsimp only at hw hWF
              refine g_if_eq (tgt := 146) C dX11_worst_138 (by decide) (fun c46 => ?_) (fun c46 => ?_)
              · have hw := hw.1 c46
                refine g_iload_n C dX11_worst_146 rfl 2 rfl ?_
                refine g_istore_n (lv' := [(2, .int x2_20), (0, .ref (ad h0)), (1, .int (I (rq Q h0 0) (0 : Int32).toNatClampNeg)), (3, .int x3_20), (4, .int x4_43)]) C dX11_worst_147 rfl (by decide) rfl ?_
                refine g_iinc (v := (x3_20 + (1 : Int32))) (lv' := [(3, .int (x3_20 + (1 : Int32))), (2, .int x2_20), (0, .ref (ad h0)), (1, .int (I (rq Q h0 0) (0 : Int32).toNatClampNeg)), (4, .int x4_43)]) C dX11_worst_148 (q := 3) rfl rfl (by decide) rfl ?_
                refine g_goto C dX11_worst_151 (tgt := 68) (by decide) ?_
                refine g_sub [2, 3, 1, 0] rfl ?_
                exact ih_u38 x2_20 (x3_20 + (1 : Int32)) hw hWF
              · have hw := hw.2 c46
                refine g_iload C dX11_worst_141 4 rfl ?_
                refine g_goto C dX11_worst_143 (tgt := 147) (by decide) ?_
                refine g_istore_n (lv' := [(2, .int x4_43), (0, .ref (ad h0)), (1, .int (I (rq Q h0 0) (0 : Int32).toNatClampNeg)), (3, .int x3_20), (4, .int x4_43)]) C dX11_worst_147 rfl (by decide) rfl ?_
                refine g_iinc (v := (x3_20 + (1 : Int32))) (lv' := [(3, .int (x3_20 + (1 : Int32))), (2, .int x4_43), (0, .ref (ad h0)), (1, .int (I (rq Q h0 0) (0 : Int32).toNatClampNeg)), (4, .int x4_43)]) C dX11_worst_148 (q := 3) rfl rfl (by decide) rfl ?_
                refine g_goto C dX11_worst_151 (tgt := 68) (by decide) ?_
                refine g_sub [2, 3, 1, 0] rfl ?_
                exact ih_u38 x4_43 (x3_20 + (1 : Int32)) hw hWF
            · have hw := hw.2 c44
              refine g_iload C dX11_worst_127 4 rfl ?_
              refine g_iload_n C dX11_worst_129 rfl 2 rfl ?_
              refine g_icmp_ge (tgt := 146) C dX11_worst_130 (by decide) (fun c47 => ?_) (fun c47 => ?_)
              · have hw := hw.1 c47
                refine g_iload_n C dX11_worst_146 rfl 2 rfl ?_
                refine g_istore_n (lv' := [(2, .int x2_20), (0, .ref (ad h0)), (1, .int (I (rq Q h0 0) (0 : Int32).toNatClampNeg)), (3, .int x3_20), (4, .int x4_43)]) C dX11_worst_147 rfl (by decide) rfl ?_
                refine g_iinc (v := (x3_20 + (1 : Int32))) (lv' := [(3, .int (x3_20 + (1 : Int32))), (2, .int x2_20), (0, .ref (ad h0)), (1, .int (I (rq Q h0 0) (0 : Int32).toNatClampNeg)), (4, .int x4_43)]) C dX11_worst_148 (q := 3) rfl rfl (by decide) rfl ?_
                refine g_goto C dX11_worst_151 (tgt := 68) (by decide) ?_
                refine g_sub [2, 3, 1, 0] rfl ?_
                exact ih_u38 x2_20 (x3_20 + (1 : Int32)) hw hWF
              · have hw := hw.2 c47
                refine g_aload_n C dX11_worst_133 rfl 0 rfl ?_
                refine g_iload_n C dX11_worst_134 rfl 3 rfl ?_
                refine g_callVi (As := [.int x3_20]) C dX11_worst_135 ft_387 z0 ft_446 ft_447 (met_X11_areJoined l hWF z0 hw) ⟨rfl, rfl, Nat.le_of_ble_eq_true rfl, Nat.le_of_ble_eq_true rfl⟩ ⟨Nat.zero_le _, Nat.zero_le _⟩ rfl rfl (Nat.le_of_ble_eq_true rfl) (fun r48 I48 J48 Q48 hp => ?_)
                obtain ⟨hw, eI, eJ, eQ, hWF⟩ := hp
                have eI : I_19 = I48 := Eq.symm eI
                subst eI
                have eJ : J = J48 := Eq.symm eJ
                subst eJ
                have eQ : Q = Q48 := Eq.symm eQ
                subst eQ
                try dsimp only at hw hWF
                refine g_if_eq (tgt := 146) C dX11_worst_138 (by decide) (fun c49 => ?_) (fun c49 => ?_)
                · have hw := hw.1 c49
                  refine g_iload_n C dX11_worst_146 rfl 2 rfl ?_
                  refine g_istore_n (lv' := [(2, .int x2_20), (0, .ref (ad h0)), (1, .int (I (rq Q h0 0) (0 : Int32).toNatClampNeg)), (3, .int x3_20), (4, .int x4_43)]) C dX11_worst_147 rfl (by decide) rfl ?_
                  refine g_iinc (v := (x3_20 + (1 : Int32))) (lv' := [(3, .int (x3_20 + (1 : Int32))), (2, .int x2_20), (0, .ref (ad h0)), (1, .int (I (rq Q h0 0) (0 : Int32).toNatClampNeg)), (4, .int x4_43)]) C dX11_worst_148 (q := 3) rfl rfl (by decide) rfl ?_
                  refine g_goto C dX11_worst_151 (tgt := 68) (by decide) ?_
                  refine g_sub [2, 3, 1, 0] rfl ?_
                  exact ih_u38 x2_20 (x3_20 + (1 : Int32)) hw hWF
                · have hw := hw.2 c49
                  refine g_iload C dX11_worst_141 4 rfl ?_
                  refine g_goto C dX11_worst_143 (tgt := 147) (by decide) ?_
                  refine g_istore_n (lv' := [(2, .int x4_43), (0, .ref (ad h0)), (1, .int (I (rq Q h0 0) (0 : Int32).toNatClampNeg)), (3, .int x3_20), (4, .int x4_43)]) C dX11_worst_147 rfl (by decide) rfl ?_
                  refine g_iinc (v := (x3_20 + (1 : Int32))) (lv' := [(3, .int (x3_20 + (1 : Int32))), (2, .int x4_43), (0, .ref (ad h0)), (1, .int (I (rq Q h0 0) (0 : Int32).toNatClampNeg)), (4, .int x4_43)]) C dX11_worst_148 (q := 3) rfl rfl (by decide) rfl ?_
                  refine g_goto C dX11_worst_151 (tgt := 68) (by decide) ?_
                  refine g_sub [2, 3, 1, 0] rfl ?_
                  exact ih_u38 x4_43 (x3_20 + (1 : Int32)) hw hWF
          have L87_u42 : ∀ (n87 : Nat) (x4_22 : Int32) (x5_22 : Int32), wp_X11_worst_L87 I_19 Q h0 (I (rq Q h0 0) (0 : Int32).toNatClampNeg) x3_20 (fun x4_43 => ((x2_20 < 0 → wp_X11_areJoined I_19 Q h0 x3_20 (fun r45 => ((r45 = 0 → wp_X11_worst_L68 I_19 Q h0 (I (rq Q h0 0) (0 : Int32).toNatClampNeg) post n68 x2_20 (x3_20 + (1 : Int32))) ∧ (¬ r45 = 0 → wp_X11_worst_L68 I_19 Q h0 (I (rq Q h0 0) (0 : Int32).toNatClampNeg) post n68 x4_43 (x3_20 + (1 : Int32)))))) ∧ (¬ x2_20 < 0 → ((x2_20 ≤ x4_43 → wp_X11_worst_L68 I_19 Q h0 (I (rq Q h0 0) (0 : Int32).toNatClampNeg) post n68 x2_20 (x3_20 + (1 : Int32))) ∧ (¬ x2_20 ≤ x4_43 → wp_X11_areJoined I_19 Q h0 x3_20 (fun r48 => ((r48 = 0 → wp_X11_worst_L68 I_19 Q h0 (I (rq Q h0 0) (0 : Int32).toNatClampNeg) post n68 x2_20 (x3_20 + (1 : Int32))) ∧ (¬ r48 = 0 → wp_X11_worst_L68 I_19 Q h0 (I (rq Q h0 0) (0 : Int32).toNatClampNeg) post n68 x4_43 (x3_20 + (1 : Int32)))))))))) n87 x4_22 x5_22 → WF Z N T Q → GG p l e ({ frames := 5, cells := 0, slots := 0, locals := 114 }) s m [.ref (ad h0)].toArray below meth c 6 A D D2 0 0 (MQ below (va_Qi (fun (r : Int32) (u : KS) => post r u.1 ∧ u.2.1 = J ∧ u.2.2 = Q ∧ WF Z N T u.2.2) (Bw D D2 ad N T) A) [.ref (ad h0)].toArray s 0 0 A) ad N T I_19 J Q 87 [(0, .ref (ad h0)), (1, .int (I (rq Q h0 0) (0 : Int32).toNatClampNeg)), (2, .int x2_20), (3, .int x3_20), (4, .int x4_22), (5, .int x5_22)] [] := by
            intro n87
            induction n87 with
            | zero => intro x4_22 x5_22 hw; exact hw.elim
            | succ n87 ih_u42 =>
              intro x4_22 x5_22 hw hWF
              unfold wp_X11_worst_L87 at hw
              refine g_iload C dX11_worst_87 5 rfl ?_
              refine g_iload_n C dX11_worst_89 rfl 1 rfl ?_
              refine g_icmp_ge (tgt := 123) C dX11_worst_90 (by decide) (fun c51 => ?_) (fun c51 => ?_)
              · have hw := hw.1 c51
                refine g_sub [0, 1, 2, 3, 4] rfl ?_
                exact K123_u42 x4_22 hw hWF
              · have hw := hw.2 c51
                refine g_iload C dX11_worst_93 4 rfl ?_
                refine g_aload_n C dX11_worst_95 rfl 0 rfl ?_
                refine g_getQ C dX11_worst_96 ft_445 z0 (hWF.q z0 14 rfl) ?_
                have zz52 := hWF.r z0 14 rfl
                refine g_bipush (v := (64 : Int32)) C dX11_worst_99 (by decide) ?_
                refine g_iload C dX11_worst_101 5 rfl ?_
                refine g_imul C dX11_worst_103 ?_
                refine g_iload_n C dX11_worst_104 rfl 3 rfl ?_
                refine g_iload C dX11_worst_105 5 rfl ?_
                refine g_iload_n C dX11_worst_107 rfl 1 rfl ?_
                refine g_iconst (v := (0 : Int32)) C dX11_worst_108 (by decide) ?_
                refine g_callSi (As := [.int x3_20, .int x5_22, .int (I (rq Q h0 0) (0 : Int32).toNatClampNeg), .int (0 : Int32)]) C dX11_worst_109 ft_383 ft_384 (met_X11_linkedBy l hWF  hw) ⟨rfl, rfl, Nat.le_of_ble_eq_true rfl, Nat.le_of_ble_eq_true rfl⟩ ⟨Nat.zero_le _, Nat.zero_le _⟩ rfl rfl (Nat.le_of_ble_eq_true rfl) (fun r53 I53 J53 Q53 hp => ?_)
                obtain ⟨hw, eI, eJ, eQ, hWF⟩ := hp
                have eI : I_19 = I53 := Eq.symm eI
                subst eI
                have eJ : J = J53 := Eq.symm eJ
                subst eJ
                have eQ : Q = Q53 := Eq.symm eQ
                subst eQ
                try dsimp only at hw hWF
                refine g_iadd C dX11_worst_112 ?_
                refine g_iald C dX11_worst_113 zz52 hw.1 ?_
                have hw := hw.2
                refine g_iadd C dX11_worst_114 ?_
                refine g_istore (lv' := [(4, .int (x4_22 + (I_19 (rq Q h0 14) (((64 : Int32) * x5_22) + r53).toNatClampNeg))), (0, .ref (ad h0)), (1, .int (I (rq Q h0 0) (0 : Int32).toNatClampNeg)), (2, .int x2_20), (3, .int x3_20), (5, .int x5_22)]) C dX11_worst_115 (by decide) rfl ?_
                refine g_iinc (v := (x5_22 + (1 : Int32))) (lv' := [(5, .int (x5_22 + (1 : Int32))), (4, .int (x4_22 + (I_19 (rq Q h0 14) (((64 : Int32) * x5_22) + r53).toNatClampNeg))), (0, .ref (ad h0)), (1, .int (I (rq Q h0 0) (0 : Int32).toNatClampNeg)), (2, .int x2_20), (3, .int x3_20)]) C dX11_worst_117 (q := 5) rfl rfl (by decide) rfl ?_
                refine g_goto C dX11_worst_120 (tgt := 87) (by decide) ?_
                refine g_sub [2, 3, 4, 5, 1, 0] rfl ?_
                exact ih_u42 (x4_22 + (I_19 (rq Q h0 14) (((64 : Int32) * x5_22) + r53).toNatClampNeg)) (x5_22 + (1 : Int32)) hw hWF
          obtain ⟨n_u42, hw⟩ := hw
          refine g_sub [2, 3, 4, 5, 1, 0] rfl ?_
          exact L87_u42 n_u42 (0 : Int32) (0 : Int32) hw hWF
    obtain ⟨n_u38, hw⟩ := hw
    refine g_sub [2, 3, 1, 0] rfl ?_
    exact L68_u38 n_u38 (-1 : Int32) (0 : Int32) hw hWF
  have L9_u18 : ∀ (n9 : Nat) (I_2 : KI) (x2_2 : Int32), wp_X11_worst_L9 Q h0 (I (rq Q h0 0) (0 : Int32).toNatClampNeg) (fun I_19 => (∃ q68, wp_X11_worst_L68 I_19 Q h0 (I (rq Q h0 0) (0 : Int32).toNatClampNeg) post q68 (-1 : Int32) (0 : Int32))) n9 I_2 x2_2 → WF Z N T Q → GG p l e ({ frames := 5, cells := 0, slots := 0, locals := 114 }) s m [.ref (ad h0)].toArray below meth c 6 A D D2 0 0 (MQ below (va_Qi (fun (r : Int32) (u : KS) => post r u.1 ∧ u.2.1 = J ∧ u.2.2 = Q ∧ WF Z N T u.2.2) (Bw D D2 ad N T) A) [.ref (ad h0)].toArray s 0 0 A) ad N T I_2 J Q 9 [(0, .ref (ad h0)), (1, .int (I (rq Q h0 0) (0 : Int32).toNatClampNeg)), (2, .int x2_2)] [] := by
    intro n9
    induction n9 with
    | zero => intro I_2 x2_2 hw; exact hw.elim
    | succ n9 ih_u18 =>
      intro I_2 x2_2 hw hWF
      unfold wp_X11_worst_L9 at hw
      refine g_iload_n C dX11_worst_9 rfl 2 rfl ?_
      refine g_iload_n C dX11_worst_10 rfl 1 rfl ?_
      refine g_icmp_ge (tgt := 64) C dX11_worst_11 (by decide) (fun c55 => ?_) (fun c55 => ?_)
      · have hw := hw.1 c55
        refine g_sub [0, 1] rfl ?_
        exact K64_u18 I_2 hw hWF
      · have hw := hw.2 c55
        refine g_iconst (v := (0 : Int32)) C dX11_worst_14 (by decide) ?_
        refine g_istore_n (lv' := [(3, .int (0 : Int32)), (0, .ref (ad h0)), (1, .int (I (rq Q h0 0) (0 : Int32).toNatClampNeg)), (2, .int x2_2)]) C dX11_worst_15 rfl (by decide) rfl ?_
        have K58_u57 : ∀ (I_58 : KI), (wp_X11_worst_L9 Q h0 (I (rq Q h0 0) (0 : Int32).toNatClampNeg) (fun I_19 => (∃ q68, wp_X11_worst_L68 I_19 Q h0 (I (rq Q h0 0) (0 : Int32).toNatClampNeg) post q68 (-1 : Int32) (0 : Int32))) n9 I_58 (x2_2 + (1 : Int32))) → WF Z N T Q → GG p l e ({ frames := 5, cells := 0, slots := 0, locals := 114 }) s m [.ref (ad h0)].toArray below meth c 6 A D D2 0 0 (MQ below (va_Qi (fun (r : Int32) (u : KS) => post r u.1 ∧ u.2.1 = J ∧ u.2.2 = Q ∧ WF Z N T u.2.2) (Bw D D2 ad N T) A) [.ref (ad h0)].toArray s 0 0 A) ad N T I_58 J Q 58 [(0, .ref (ad h0)), (1, .int (I (rq Q h0 0) (0 : Int32).toNatClampNeg)), (2, .int x2_2)] [] := by
          intro I_58 hw hWF
          refine g_iinc (v := (x2_2 + (1 : Int32))) (lv' := [(2, .int (x2_2 + (1 : Int32))), (0, .ref (ad h0)), (1, .int (I (rq Q h0 0) (0 : Int32).toNatClampNeg))]) C dX11_worst_58 (q := 2) rfl rfl (by decide) rfl ?_
          refine g_goto C dX11_worst_61 (tgt := 9) (by decide) ?_
          refine g_sub [1, 2, 0] rfl ?_
          exact ih_u18 I_58 (x2_2 + (1 : Int32)) hw hWF
        have L16_u57 : ∀ (n16 : Nat) (I_4 : KI) (x3_4 : Int32), wp_X11_worst_L16 Q h0 (I (rq Q h0 0) (0 : Int32).toNatClampNeg) x2_2 (fun I_58 => wp_X11_worst_L9 Q h0 (I (rq Q h0 0) (0 : Int32).toNatClampNeg) (fun I_19 => (∃ q68, wp_X11_worst_L68 I_19 Q h0 (I (rq Q h0 0) (0 : Int32).toNatClampNeg) post q68 (-1 : Int32) (0 : Int32))) n9 I_58 (x2_2 + (1 : Int32))) n16 I_4 x3_4 → WF Z N T Q → GG p l e ({ frames := 5, cells := 0, slots := 0, locals := 114 }) s m [.ref (ad h0)].toArray below meth c 6 A D D2 0 0 (MQ below (va_Qi (fun (r : Int32) (u : KS) => post r u.1 ∧ u.2.1 = J ∧ u.2.2 = Q ∧ WF Z N T u.2.2) (Bw D D2 ad N T) A) [.ref (ad h0)].toArray s 0 0 A) ad N T I_4 J Q 16 [(0, .ref (ad h0)), (1, .int (I (rq Q h0 0) (0 : Int32).toNatClampNeg)), (2, .int x2_2), (3, .int x3_4)] [] := by
          intro n16
          induction n16 with
          | zero => intro I_4 x3_4 hw; exact hw.elim
          | succ n16 ih_u57 =>
            intro I_4 x3_4 hw hWF
            unfold wp_X11_worst_L16 at hw
            refine g_iload_n C dX11_worst_16 rfl 3 rfl ?_
            refine g_iconst (v := (1 : Int32)) C dX11_worst_17 (by decide) ?_
            refine g_iload_n C dX11_worst_18 rfl 1 rfl ?_
            refine g_ishl C dX11_worst_19 ?_
            refine g_icmp_ge (tgt := 58) C dX11_worst_20 (by decide) (fun c60 => ?_) (fun c60 => ?_)
            · have hw := hw.1 c60
              refine g_sub [0, 1, 2] rfl ?_
              exact K58_u57 I_4 hw hWF
            · have hw := hw.2 c60
              refine g_aload_n C dX11_worst_23 rfl 0 rfl ?_
              refine g_getQ C dX11_worst_24 ft_445 z0 (hWF.q z0 14 rfl) ?_
              have zz61 := hWF.r z0 14 rfl
              refine g_bipush (v := (64 : Int32)) C dX11_worst_27 (by decide) ?_
              refine g_iload_n C dX11_worst_29 rfl 2 rfl ?_
              refine g_imul C dX11_worst_30 ?_
              refine g_iload_n C dX11_worst_31 rfl 3 rfl ?_
              refine g_iadd C dX11_worst_32 ?_
              refine g_iload_n C dX11_worst_33 rfl 3 rfl ?_
              refine g_iload_n C dX11_worst_34 rfl 2 rfl ?_
              refine g_callSi (As := [.int x3_4, .int x2_2]) C dX11_worst_35 ft_381 ft_382 (met_X11_has l hWF  hw) ⟨rfl, rfl, Nat.le_of_ble_eq_true rfl, Nat.le_of_ble_eq_true rfl⟩ ⟨Nat.zero_le _, Nat.zero_le _⟩ rfl rfl (Nat.le_of_ble_eq_true rfl) (fun r62 I62 J62 Q62 hp => ?_)
              obtain ⟨hw, eI, eJ, eQ, hWF⟩ := hp
              have eI : I_4 = I62 := Eq.symm eI
              subst eI
              have eJ : J = J62 := Eq.symm eJ
              subst eJ
              have eQ : Q = Q62 := Eq.symm eQ
              subst eQ
              try dsimp only at hw hWF
              refine g_if_eq (tgt := 45) C dX11_worst_38 (by decide) (fun c63 => ?_) (fun c63 => ?_)
              · have hw := hw.1 c63
                refine g_aload_n C dX11_worst_45 rfl 0 rfl ?_
                refine g_iload_n C dX11_worst_46 rfl 2 rfl ?_
                refine g_iload_n C dX11_worst_47 rfl 3 rfl ?_
                refine g_callVi (As := [.int x2_2, .int x3_4]) C dX11_worst_48 ft_387 z0 ft_436 ft_437 (met_X11_growth l hWF z0 hw) ⟨rfl, rfl, Nat.le_of_ble_eq_true rfl, Nat.le_of_ble_eq_true rfl⟩ ⟨Nat.zero_le _, Nat.zero_le _⟩ rfl rfl (Nat.le_of_ble_eq_true rfl) (fun r64 I64 J64 Q64 hp => ?_)
                obtain ⟨hw, eJ, eQ, hWF⟩ := hp
                have eJ : J = J64 := Eq.symm eJ
                subst eJ
                have eQ : Q = Q64 := Eq.symm eQ
                subst eQ
                try dsimp only at hw hWF
                refine g_iast C dX11_worst_51 zz61 hw.1 ?_
                have hw := hw.2
                refine g_iinc (v := (x3_4 + (1 : Int32))) (lv' := [(3, .int (x3_4 + (1 : Int32))), (0, .ref (ad h0)), (1, .int (I (rq Q h0 0) (0 : Int32).toNatClampNeg)), (2, .int x2_2)]) C dX11_worst_52 (q := 3) rfl rfl (by decide) rfl ?_
                refine g_goto C dX11_worst_55 (tgt := 16) (by decide) ?_
                refine g_sub [1, 2, 3, 0] rfl ?_
                exact ih_u57 (sti I64 (rq Q h0 14) (((64 : Int32) * x2_2) + x3_4).toNatClampNeg r64) (x3_4 + (1 : Int32)) hw hWF
              · have hw := hw.2 c63
                refine g_iconst (v := (0 : Int32)) C dX11_worst_41 (by decide) ?_
                refine g_goto C dX11_worst_42 (tgt := 51) (by decide) ?_
                refine g_iast C dX11_worst_51 zz61 hw.1 ?_
                have hw := hw.2
                refine g_iinc (v := (x3_4 + (1 : Int32))) (lv' := [(3, .int (x3_4 + (1 : Int32))), (0, .ref (ad h0)), (1, .int (I (rq Q h0 0) (0 : Int32).toNatClampNeg)), (2, .int x2_2)]) C dX11_worst_52 (q := 3) rfl rfl (by decide) rfl ?_
                refine g_goto C dX11_worst_55 (tgt := 16) (by decide) ?_
                refine g_sub [1, 2, 3, 0] rfl ?_
                exact ih_u57 (sti I_4 (rq Q h0 14) (((64 : Int32) * x2_2) + x3_4).toNatClampNeg (0 : Int32)) (x3_4 + (1 : Int32)) hw hWF
        obtain ⟨n_u57, hw⟩ := hw
        refine g_sub [1, 2, 3, 0] rfl ?_
        exact L16_u57 n_u57 I_2 (0 : Int32) hw hWF
  obtain ⟨n_u18, hw⟩ := hw
  refine g_sub [2, 1, 0] rfl ?_
  exact L9_u18 n_u18 I (0 : Int32) hw hWF
def wp_X11_gain_L32 (Qf_5 : KQ) (f0_5 : Nat) (f1_5 : Int32) (post : Int32 → KI → Prop) : Nat → KI → Int32 → Int32 → Prop
  | 0, _, _, _ => False
  | n32 + 1, I_5, x2_5, x3_5 => (((I_5 (rq Qf_5 f0_5 0) (0 : Int32).toNatClampNeg) ≤ x3_5 → post x2_5 I_5) ∧ (¬ (I_5 (rq Qf_5 f0_5 0) (0 : Int32).toNatClampNeg) ≤ x3_5 → wp_X11_present I_5 Qf_5 f0_5 (fun r8 => ((¬ f1_5 = (2 : Int32) → wp_X11_linkedBy r8 x3_5 (I_5 (rq Qf_5 f0_5 0) (0 : Int32).toNatClampNeg) (0 : Int32) (fun r11 => wp_X11_growth I_5 Qf_5 f0_5 x3_5 r11 (fun r12 I12 => wp_X11_gain_L32 Qf_5 f0_5 f1_5 post n32 I12 (x2_5 + r12) (x3_5 + (1 : Int32))))) ∧ (f1_5 = (2 : Int32) → wp_X11_linkedBy r8 x3_5 (I_5 (rq Qf_5 f0_5 0) (0 : Int32).toNatClampNeg) (1 : Int32) (fun r13 => wp_X11_growth I_5 Qf_5 f0_5 x3_5 r13 (fun r14 I14 => wp_X11_gain_L32 Qf_5 f0_5 f1_5 post n32 I14 (x2_5 + r14) (x3_5 + (1 : Int32)))))))))
def wp_X11_gain (I : KI) (Q : KQ) (h0 : Nat) (x1 : Int32) (post : Int32 → KI → Prop) : Prop := wp_X11_in (x1.toInt64) (0 : Int64) (2 : Int64) (fun r1 => ((¬ r1 = 0 → wp_X11_laysSends I Q h0 (fun I3 => ((¬ x1 = (1 : Int32) → (∃ q32, wp_X11_gain_L32 Q h0 x1 post q32 I3 (0 : Int32) (0 : Int32))) ∧ (x1 = (1 : Int32) → wp_X11_worst I3 Q h0 (fun r26 I26 => post r26 I26))))) ∧ (r1 = 0 → post (-1 : Int32) I)))
set_option maxHeartbeats 4000000 in
set_option maxRecDepth 100000 in
theorem met_X11_gain {Z : Nat → Prop} {A : Nat → Prop} {D : va_G} {D2 : Nat → ClassId} {ad : Nat → Nat} {N : Nat} {T : Nat → Nat × Nat} (l : Launch) {I : KI} {J : KJ} {Q : KQ} {h0 : Nat} {x1 : Int32} {post : Int32 → KI → Prop} (hWF : WF Z N T Q) (z0 : OKr Z N T h0 (11, 0)) (hw : wp_X11_gain I Q h0 x1 post) : Met l yX11_gain (.code yX11_gain cX11_gain 4 (some .int) :: BIG) ({ frames := 6, cells := 0, slots := 0, locals := 141 }) (Pr D D2 A ad N T I J Q [.ref (ad h0), .int x1]) (va_Qi (fun (r : Int32) (u : KS) => post r u.1 ∧ u.2.1 = J ∧ u.2.2 = Q ∧ WF Z N T u.2.2) (Bw D D2 ad N T) A) 0 0 A := by
  refine Met_GG (lv0 := [(0, .ref (ad h0)), (1, .int x1)]) (by decide +kernel) [.ref (ad h0), .int x1] (Nat.le_of_ble_eq_true rfl) rfl ?_
  intro p e s m below meth c C hr
  have C : CX p s m [.ref (ad h0), .int x1].toArray meth c cX11_gain 4 RX11 A D D2 := C
  unfold wp_X11_gain at hw
  refine g_iload_n C dX11_gain_0 rfl 1 rfl ?_
  refine g_i2l C dX11_gain_1 ?_
  refine g_lconst (v := (0 : Int64)) C dX11_gain_2 (by decide) ?_
  refine g_ldc2 C dX11_gain_3 ft_448 ?_
  refine g_callSi (As := [.long (x1.toInt64), .long (0 : Int64), .long (2 : Int64)]) C dX11_gain_6 ft_397 ft_398 (met_X11_in l hWF  hw) ⟨rfl, rfl, Nat.le_of_ble_eq_true rfl, Nat.le_of_ble_eq_true rfl⟩ ⟨Nat.zero_le _, Nat.zero_le _⟩ rfl rfl (Nat.le_of_ble_eq_true rfl) (fun r1 I1 J1 Q1 hp => ?_)
  obtain ⟨hw, eI, eJ, eQ, hWF⟩ := hp
  have eI : I = I1 := Eq.symm eI
  subst eI
  have eJ : J = J1 := Eq.symm eJ
  subst eJ
  have eQ : Q = Q1 := Eq.symm eQ
  subst eQ
  try dsimp only at hw hWF
  refine g_if_ne (tgt := 14) C dX11_gain_9 (by decide) (fun c2 => ?_) (fun c2 => ?_)
  · have hw := hw.1 c2
    refine g_aload_n C dX11_gain_14 rfl 0 rfl ?_
    refine g_callVv (As := []) C dX11_gain_15 ft_387 z0 ft_428 ft_429 (met_X11_laysSends l hWF z0 hw) ⟨rfl, rfl, Nat.le_of_ble_eq_true rfl, Nat.le_of_ble_eq_true rfl⟩ ⟨Nat.zero_le _, Nat.zero_le _⟩ rfl rfl (Nat.le_of_ble_eq_true rfl) (fun I3 J3 Q3 hp => ?_)
    obtain ⟨hw, eJ, eQ, hWF⟩ := hp
    have eJ : J = J3 := Eq.symm eJ
    subst eJ
    have eQ : Q = Q3 := Eq.symm eQ
    subst eQ
    try dsimp only at hw hWF
    refine g_iload_n C dX11_gain_18 rfl 1 rfl ?_
    refine g_iconst (v := (1 : Int32)) C dX11_gain_19 (by decide) ?_
    refine g_icmp_ne (tgt := 28) C dX11_gain_20 (by decide) (fun c4 => ?_) (fun c4 => ?_)
    · have hw := hw.1 c4
      refine g_iconst (v := (0 : Int32)) C dX11_gain_28 (by decide) ?_
      refine g_istore_n (lv' := [(2, .int (0 : Int32)), (0, .ref (ad h0)), (1, .int x1)]) C dX11_gain_29 rfl (by decide) rfl ?_
      refine g_iconst (v := (0 : Int32)) C dX11_gain_30 (by decide) ?_
      refine g_istore_n (lv' := [(3, .int (0 : Int32)), (2, .int (0 : Int32)), (0, .ref (ad h0)), (1, .int x1)]) C dX11_gain_31 rfl (by decide) rfl ?_
      have L32_u15 : ∀ (n32 : Nat) (I_5 : KI) (x2_5 : Int32) (x3_5 : Int32), wp_X11_gain_L32 Q h0 x1 post n32 I_5 x2_5 x3_5 → WF Z N T Q → GG p l e ({ frames := 6, cells := 0, slots := 0, locals := 141 }) s m [.ref (ad h0), .int x1].toArray below meth c 4 A D D2 0 0 (MQ below (va_Qi (fun (r : Int32) (u : KS) => post r u.1 ∧ u.2.1 = J ∧ u.2.2 = Q ∧ WF Z N T u.2.2) (Bw D D2 ad N T) A) [.ref (ad h0), .int x1].toArray s 0 0 A) ad N T I_5 J Q 32 [(0, .ref (ad h0)), (1, .int x1), (2, .int x2_5), (3, .int x3_5)] [] := by
        intro n32
        induction n32 with
        | zero => intro I_5 x2_5 x3_5 hw; exact hw.elim
        | succ n32 ih_u15 =>
          intro I_5 x2_5 x3_5 hw hWF
          unfold wp_X11_gain_L32 at hw
          refine g_iload_n C dX11_gain_32 rfl 3 rfl ?_
          refine g_aload_n C dX11_gain_33 rfl 0 rfl ?_
          refine g_getQ C dX11_gain_34 ft_363 z0 (hWF.q z0 0 rfl) ?_
          have zz17 := hWF.r z0 0 rfl
          refine g_iconst (v := (0 : Int32)) C dX11_gain_37 (by decide) ?_
          refine g_iald C dX11_gain_38 zz17 (vp_lit (by decide +kernel)) ?_
          refine g_icmp_ge (tgt := 80) C dX11_gain_39 (by decide) (fun c18 => ?_) (fun c18 => ?_)
          · have hw := hw.1 c18
            refine g_iload_n C dX11_gain_80 rfl 2 rfl ?_
            exact g_iret C dX11_gain_81 hr ⟨hw, rfl, rfl, hWF⟩
          · have hw := hw.2 c18
            refine g_iload_n C dX11_gain_42 rfl 2 rfl ?_
            refine g_aload_n C dX11_gain_43 rfl 0 rfl ?_
            refine g_iload_n C dX11_gain_44 rfl 3 rfl ?_
            refine g_aload_n C dX11_gain_45 rfl 0 rfl ?_
            refine g_callVi (As := []) C dX11_gain_46 ft_387 z0 ft_426 ft_427 (met_X11_present l hWF z0 hw) ⟨rfl, rfl, Nat.le_of_ble_eq_true rfl, Nat.le_of_ble_eq_true rfl⟩ ⟨Nat.zero_le _, Nat.zero_le _⟩ rfl rfl (Nat.le_of_ble_eq_true rfl) (fun r19 I19 J19 Q19 hp => ?_)
            obtain ⟨hw, eI, eJ, eQ, hWF⟩ := hp
            have eI : I_5 = I19 := Eq.symm eI
            subst eI
            have eJ : J = J19 := Eq.symm eJ
            subst eJ
            have eQ : Q = Q19 := Eq.symm eQ
            subst eQ
            try dsimp only at hw hWF
            refine g_iload_n C dX11_gain_49 rfl 3 rfl ?_
            refine g_aload_n C dX11_gain_50 rfl 0 rfl ?_
            refine g_getQ C dX11_gain_51 ft_363 z0 (hWF.q z0 0 rfl) ?_
            have zz20 := hWF.r z0 0 rfl
            refine g_iconst (v := (0 : Int32)) C dX11_gain_54 (by decide) ?_
            refine g_iald C dX11_gain_55 zz20 (vp_lit (by decide +kernel)) ?_
            refine g_iload_n C dX11_gain_56 rfl 1 rfl ?_
            refine g_iconst (v := (2 : Int32)) C dX11_gain_57 (by decide) ?_
            refine g_icmp_ne (tgt := 65) C dX11_gain_58 (by decide) (fun c21 => ?_) (fun c21 => ?_)
            · have hw := hw.1 c21
              refine g_iconst (v := (0 : Int32)) C dX11_gain_65 (by decide) ?_
              refine g_callSi (As := [.int r19, .int x3_5, .int (I_5 (rq Q h0 0) (0 : Int32).toNatClampNeg), .int (0 : Int32)]) C dX11_gain_66 ft_383 ft_384 (met_X11_linkedBy l hWF  hw) ⟨rfl, rfl, Nat.le_of_ble_eq_true rfl, Nat.le_of_ble_eq_true rfl⟩ ⟨Nat.zero_le _, Nat.zero_le _⟩ rfl rfl (Nat.le_of_ble_eq_true rfl) (fun r22 I22 J22 Q22 hp => ?_)
              obtain ⟨hw, eI, eJ, eQ, hWF⟩ := hp
              have eI : I_5 = I22 := Eq.symm eI
              subst eI
              have eJ : J = J22 := Eq.symm eJ
              subst eJ
              have eQ : Q = Q22 := Eq.symm eQ
              subst eQ
              try dsimp only at hw hWF
              refine g_callVi (As := [.int x3_5, .int r22]) C dX11_gain_69 ft_387 z0 ft_436 ft_437 (met_X11_growth l hWF z0 hw) ⟨rfl, rfl, Nat.le_of_ble_eq_true rfl, Nat.le_of_ble_eq_true rfl⟩ ⟨Nat.zero_le _, Nat.zero_le _⟩ rfl rfl (Nat.le_of_ble_eq_true rfl) (fun r23 I23 J23 Q23 hp => ?_)
              obtain ⟨hw, eJ, eQ, hWF⟩ := hp
              have eJ : J = J23 := Eq.symm eJ
              subst eJ
              have eQ : Q = Q23 := Eq.symm eQ
              subst eQ
              try dsimp only at hw hWF
              refine g_iadd C dX11_gain_72 ?_
              refine g_istore_n (lv' := [(2, .int (x2_5 + r23)), (0, .ref (ad h0)), (1, .int x1), (3, .int x3_5)]) C dX11_gain_73 rfl (by decide) rfl ?_
              refine g_iinc (v := (x3_5 + (1 : Int32))) (lv' := [(3, .int (x3_5 + (1 : Int32))), (2, .int (x2_5 + r23)), (0, .ref (ad h0)), (1, .int x1)]) C dX11_gain_74 (q := 3) rfl rfl (by decide) rfl ?_
              refine g_goto C dX11_gain_77 (tgt := 32) (by decide) ?_
              refine g_sub [2, 3, 1, 0] rfl ?_
              exact ih_u15 I23 (x2_5 + r23) (x3_5 + (1 : Int32)) hw hWF
            · have hw := hw.2 c21
              refine g_iconst (v := (1 : Int32)) C dX11_gain_61 (by decide) ?_
              refine g_goto C dX11_gain_62 (tgt := 66) (by decide) ?_
              refine g_callSi (As := [.int r19, .int x3_5, .int (I_5 (rq Q h0 0) (0 : Int32).toNatClampNeg), .int (1 : Int32)]) C dX11_gain_66 ft_383 ft_384 (met_X11_linkedBy l hWF  hw) ⟨rfl, rfl, Nat.le_of_ble_eq_true rfl, Nat.le_of_ble_eq_true rfl⟩ ⟨Nat.zero_le _, Nat.zero_le _⟩ rfl rfl (Nat.le_of_ble_eq_true rfl) (fun r24 I24 J24 Q24 hp => ?_)
              obtain ⟨hw, eI, eJ, eQ, hWF⟩ := hp
              have eI : I_5 = I24 := Eq.symm eI
              subst eI
              have eJ : J = J24 := Eq.symm eJ
              subst eJ
              have eQ : Q = Q24 := Eq.symm eQ
              subst eQ
              try dsimp only at hw hWF
              refine g_callVi (As := [.int x3_5, .int r24]) C dX11_gain_69 ft_387 z0 ft_436 ft_437 (met_X11_growth l hWF z0 hw) ⟨rfl, rfl, Nat.le_of_ble_eq_true rfl, Nat.le_of_ble_eq_true rfl⟩ ⟨Nat.zero_le _, Nat.zero_le _⟩ rfl rfl (Nat.le_of_ble_eq_true rfl) (fun r25 I25 J25 Q25 hp => ?_)
              obtain ⟨hw, eJ, eQ, hWF⟩ := hp
              have eJ : J = J25 := Eq.symm eJ
              subst eJ
              have eQ : Q = Q25 := Eq.symm eQ
              subst eQ
              try dsimp only at hw hWF
              refine g_iadd C dX11_gain_72 ?_
              refine g_istore_n (lv' := [(2, .int (x2_5 + r25)), (0, .ref (ad h0)), (1, .int x1), (3, .int x3_5)]) C dX11_gain_73 rfl (by decide) rfl ?_
              refine g_iinc (v := (x3_5 + (1 : Int32))) (lv' := [(3, .int (x3_5 + (1 : Int32))), (2, .int (x2_5 + r25)), (0, .ref (ad h0)), (1, .int x1)]) C dX11_gain_74 (q := 3) rfl rfl (by decide) rfl ?_
              refine g_goto C dX11_gain_77 (tgt := 32) (by decide) ?_
              refine g_sub [2, 3, 1, 0] rfl ?_
              exact ih_u15 I25 (x2_5 + r25) (x3_5 + (1 : Int32)) hw hWF
      obtain ⟨n_u15, hw⟩ := hw
      refine g_sub [2, 3, 1, 0] rfl ?_
      exact L32_u15 n_u15 I3 (0 : Int32) (0 : Int32) hw hWF
    · have hw := hw.2 c4
      refine g_aload_n C dX11_gain_23 rfl 0 rfl ?_
      refine g_callVi (As := []) C dX11_gain_24 ft_387 z0 ft_449 ft_450 (met_X11_worst l hWF z0 hw) ⟨rfl, rfl, Nat.le_of_ble_eq_true rfl, Nat.le_of_ble_eq_true rfl⟩ ⟨Nat.zero_le _, Nat.zero_le _⟩ rfl rfl (Nat.le_of_ble_eq_true rfl) (fun r26 I26 J26 Q26 hp => ?_)
      obtain ⟨hw, eJ, eQ, hWF⟩ := hp
      have eJ : J = J26 := Eq.symm eJ
      subst eJ
      have eQ : Q = Q26 := Eq.symm eQ
      subst eQ
      try dsimp only at hw hWF
      exact g_iret C dX11_gain_27 hr ⟨hw, rfl, rfl, hWF⟩
  · have hw := hw.2 c2
    refine g_iconst (v := (-1 : Int32)) C dX11_gain_12 (by decide) ?_
    exact g_iret C dX11_gain_13 hr ⟨hw, rfl, rfl, hWF⟩
def wp_X11_foreseen_L17 (Qf_4 : KQ) (f0_4 : Nat) (k46 : KI → Int32 → Prop) : Nat → KI → Int32 → Prop
  | 0, _, _ => False
  | n17 + 1, I_4, x1_4 => (((60 : Int32) ≤ x1_4 → k46 I_4 x1_4) ∧ (¬ (60 : Int32) ≤ x1_4 → wp_X11_whole I_4 Qf_4 f0_4 (fun r6 => (((I_4 (rq Qf_4 f0_4 0) (0 : Int32).toNatClampNeg) ≤ r6 → k46 I_4 x1_4) ∧ (¬ (I_4 (rq Qf_4 f0_4 0) (0 : Int32).toNatClampNeg) ≤ r6 → wp_X11_goes I_4 Qf_4 f0_4 (fun I9 => wp_X11_foreseen_L17 Qf_4 f0_4 k46 n17 I9 (x1_4 + (1 : Int32))))))))
def wp_X11_foreseen (I : KI) (Q : KQ) (h0 : Nat) (post : Int32 → KI → Prop) : Prop := wp_X11_copies I (rq Q h0 0) 69 (0 : Int32) (rq Q h0 8) 69 (0 : Int32) (69 : Int32) (fun I3 => (∃ q17, wp_X11_foreseen_L17 Q h0 (fun I_11 x1_11 => wp_X11_whole I_11 Q h0 (fun r12 => ((¬ r12 = (I_11 (rq Q h0 0) (0 : Int32).toNatClampNeg) → wp_X11_copies I_11 (rq Q h0 8) 69 (0 : Int32) (rq Q h0 0) 69 (0 : Int32) (69 : Int32) (fun I17 => post (-4 : Int32) I17)) ∧ (r12 = (I_11 (rq Q h0 0) (0 : Int32).toNatClampNeg) → wp_X11_copies I_11 (rq Q h0 8) 69 (0 : Int32) (rq Q h0 0) 69 (0 : Int32) (69 : Int32) (fun I21 => post x1_11 I21))))) q17 I3 (0 : Int32)))
set_option maxHeartbeats 4000000 in
set_option maxRecDepth 100000 in
theorem met_X11_foreseen {Z : Nat → Prop} {A : Nat → Prop} {D : va_G} {D2 : Nat → ClassId} {ad : Nat → Nat} {N : Nat} {T : Nat → Nat × Nat} (l : Launch) {I : KI} {J : KJ} {Q : KQ} {h0 : Nat} {post : Int32 → KI → Prop} (hWF : WF Z N T Q) (z0 : OKr Z N T h0 (11, 0)) (hw : wp_X11_foreseen I Q h0 post) : Met l yX11_foreseen (.code yX11_foreseen cX11_foreseen 3 (some .int) :: BIG) ({ frames := 7, cells := 0, slots := 0, locals := 163 }) (Pr D D2 A ad N T I J Q [.ref (ad h0)]) (va_Qi (fun (r : Int32) (u : KS) => post r u.1 ∧ u.2.1 = J ∧ u.2.2 = Q ∧ WF Z N T u.2.2) (Bw D D2 ad N T) A) 0 0 A := by
  refine Met_GG (lv0 := [(0, .ref (ad h0))]) (by decide +kernel) [.ref (ad h0)] (Nat.le_of_ble_eq_true rfl) rfl ?_
  intro p e s m below meth c C hr
  have C : CX p s m [.ref (ad h0)].toArray meth c cX11_foreseen 3 RX11 A D D2 := C
  unfold wp_X11_foreseen at hw
  refine g_aload_n C dX11_foreseen_0 rfl 0 rfl ?_
  refine g_getQ C dX11_foreseen_1 ft_363 z0 (hWF.q z0 0 rfl) ?_
  have zz1 := hWF.r z0 0 rfl
  refine g_iconst (v := (0 : Int32)) C dX11_foreseen_4 (by decide) ?_
  refine g_aload_n C dX11_foreseen_5 rfl 0 rfl ?_
  refine g_getQ C dX11_foreseen_6 ft_451 z0 (hWF.q z0 8 rfl) ?_
  have zz2 := hWF.r z0 8 rfl
  refine g_iconst (v := (0 : Int32)) C dX11_foreseen_9 (by decide) ?_
  refine g_bipush (v := (69 : Int32)) C dX11_foreseen_10 (by decide) ?_
  refine g_callSv (As := [.ref (ad (rq Q h0 0)), .int (0 : Int32), .ref (ad (rq Q h0 8)), .int (0 : Int32), .int (69 : Int32)]) C dX11_foreseen_12 ft_372 ft_373 (met_X11_copies l hWF zz1 zz2 hw) ⟨rfl, rfl, Nat.le_of_ble_eq_true rfl, Nat.le_of_ble_eq_true rfl⟩ ⟨Nat.zero_le _, Nat.zero_le _⟩ rfl rfl (Nat.le_of_ble_eq_true rfl) (fun I3 J3 Q3 hp => ?_)
  obtain ⟨hw, eJ, eQ, hWF⟩ := hp
  have eJ : J = J3 := Eq.symm eJ
  subst eJ
  have eQ : Q = Q3 := Eq.symm eQ
  subst eQ
  try dsimp only at hw hWF
  refine g_iconst (v := (0 : Int32)) C dX11_foreseen_15 (by decide) ?_
  refine g_istore_n (lv' := [(1, .int (0 : Int32)), (0, .ref (ad h0))]) C dX11_foreseen_16 rfl (by decide) rfl ?_
  have K46_u10 : ∀ (I_11 : KI) (x1_11 : Int32), (wp_X11_whole I_11 Q h0 (fun r12 => ((¬ r12 = (I_11 (rq Q h0 0) (0 : Int32).toNatClampNeg) → wp_X11_copies I_11 (rq Q h0 8) 69 (0 : Int32) (rq Q h0 0) 69 (0 : Int32) (69 : Int32) (fun I17 => post (-4 : Int32) I17)) ∧ (r12 = (I_11 (rq Q h0 0) (0 : Int32).toNatClampNeg) → wp_X11_copies I_11 (rq Q h0 8) 69 (0 : Int32) (rq Q h0 0) 69 (0 : Int32) (69 : Int32) (fun I21 => post x1_11 I21))))) → WF Z N T Q → GG p l e ({ frames := 7, cells := 0, slots := 0, locals := 163 }) s m [.ref (ad h0)].toArray below meth c 3 A D D2 0 0 (MQ below (va_Qi (fun (r : Int32) (u : KS) => post r u.1 ∧ u.2.1 = J ∧ u.2.2 = Q ∧ WF Z N T u.2.2) (Bw D D2 ad N T) A) [.ref (ad h0)].toArray s 0 0 A) ad N T I_11 J Q 46 [(0, .ref (ad h0)), (1, .int x1_11)] [] := by
    intro I_11 x1_11 hw hWF
    refine g_aload_n C dX11_foreseen_46 rfl 0 rfl ?_
    refine g_callVi (As := []) C dX11_foreseen_47 ft_387 z0 ft_440 ft_441 (met_X11_whole l hWF z0 hw) ⟨rfl, rfl, Nat.le_of_ble_eq_true rfl, Nat.le_of_ble_eq_true rfl⟩ ⟨Nat.zero_le _, Nat.zero_le _⟩ rfl rfl (Nat.le_of_ble_eq_true rfl) (fun r12 I12 J12 Q12 hp => ?_)
    obtain ⟨hw, eI, eJ, eQ, hWF⟩ := hp
    have eI : I_11 = I12 := Eq.symm eI
    subst eI
    have eJ : J = J12 := Eq.symm eJ
    subst eJ
    have eQ : Q = Q12 := Eq.symm eQ
    subst eQ
    try dsimp only at hw hWF
    refine g_aload_n C dX11_foreseen_50 rfl 0 rfl ?_
    refine g_getQ C dX11_foreseen_51 ft_363 z0 (hWF.q z0 0 rfl) ?_
    have zz13 := hWF.r z0 0 rfl
    refine g_iconst (v := (0 : Int32)) C dX11_foreseen_54 (by decide) ?_
    refine g_iald C dX11_foreseen_55 zz13 (vp_lit (by decide +kernel)) ?_
    refine g_icmp_ne (tgt := 63) C dX11_foreseen_56 (by decide) (fun c14 => ?_) (fun c14 => ?_)
    · have hw := hw.1 c14
      refine g_iconst (v := (0 : Int32)) C dX11_foreseen_63 (by decide) ?_
      refine g_istore_n (lv' := [(2, .int (0 : Int32)), (0, .ref (ad h0)), (1, .int x1_11)]) C dX11_foreseen_64 rfl (by decide) rfl ?_
      refine g_aload_n C dX11_foreseen_65 rfl 1 rfl ?_
      refine g_getQ C dX11_foreseen_66 ft_451 z0 (hWF.q z0 8 rfl) ?_
      have zz15 := hWF.r z0 8 rfl
      refine g_iconst (v := (0 : Int32)) C dX11_foreseen_69 (by decide) ?_
      refine g_aload_n C dX11_foreseen_70 rfl 1 rfl ?_
      refine g_getQ C dX11_foreseen_71 ft_363 z0 (hWF.q z0 0 rfl) ?_
      have zz16 := hWF.r z0 0 rfl
      refine g_iconst (v := (0 : Int32)) C dX11_foreseen_74 (by decide) ?_
      refine g_bipush (v := (69 : Int32)) C dX11_foreseen_75 (by decide) ?_
      refine g_callSv (As := [.ref (ad (rq Q h0 8)), .int (0 : Int32), .ref (ad (rq Q h0 0)), .int (0 : Int32), .int (69 : Int32)]) C dX11_foreseen_77 ft_372 ft_373 (met_X11_copies l hWF zz15 zz16 hw) ⟨rfl, rfl, Nat.le_of_ble_eq_true rfl, Nat.le_of_ble_eq_true rfl⟩ ⟨Nat.zero_le _, Nat.zero_le _⟩ rfl rfl (Nat.le_of_ble_eq_true rfl) (fun I17 J17 Q17 hp => ?_)
      obtain ⟨hw, eJ, eQ, hWF⟩ := hp
      have eJ : J = J17 := Eq.symm eJ
      subst eJ
      have eQ : Q = Q17 := Eq.symm eQ
      subst eQ
      try dsimp only at hw hWF
      refine g_iload_n C dX11_foreseen_80 rfl 0 rfl ?_
      refine g_if_eq (tgt := 88) C dX11_foreseen_81 (by decide) (fun _ => ?_) (fun c18 => absurd c18 (by decide))
      refine g_bipush (v := (-4 : Int32)) C dX11_foreseen_88 (by decide) ?_
      exact g_iret C dX11_foreseen_90 hr ⟨hw, rfl, rfl, hWF⟩
    · have hw := hw.2 c14
      refine g_iconst (v := (1 : Int32)) C dX11_foreseen_59 (by decide) ?_
      refine g_goto C dX11_foreseen_60 (tgt := 64) (by decide) ?_
      refine g_istore_n (lv' := [(2, .int (1 : Int32)), (0, .ref (ad h0)), (1, .int x1_11)]) C dX11_foreseen_64 rfl (by decide) rfl ?_
      refine g_aload_n C dX11_foreseen_65 rfl 1 rfl ?_
      refine g_getQ C dX11_foreseen_66 ft_451 z0 (hWF.q z0 8 rfl) ?_
      have zz19 := hWF.r z0 8 rfl
      refine g_iconst (v := (0 : Int32)) C dX11_foreseen_69 (by decide) ?_
      refine g_aload_n C dX11_foreseen_70 rfl 1 rfl ?_
      refine g_getQ C dX11_foreseen_71 ft_363 z0 (hWF.q z0 0 rfl) ?_
      have zz20 := hWF.r z0 0 rfl
      refine g_iconst (v := (0 : Int32)) C dX11_foreseen_74 (by decide) ?_
      refine g_bipush (v := (69 : Int32)) C dX11_foreseen_75 (by decide) ?_
      refine g_callSv (As := [.ref (ad (rq Q h0 8)), .int (0 : Int32), .ref (ad (rq Q h0 0)), .int (0 : Int32), .int (69 : Int32)]) C dX11_foreseen_77 ft_372 ft_373 (met_X11_copies l hWF zz19 zz20 hw) ⟨rfl, rfl, Nat.le_of_ble_eq_true rfl, Nat.le_of_ble_eq_true rfl⟩ ⟨Nat.zero_le _, Nat.zero_le _⟩ rfl rfl (Nat.le_of_ble_eq_true rfl) (fun I21 J21 Q21 hp => ?_)
      obtain ⟨hw, eJ, eQ, hWF⟩ := hp
      have eJ : J = J21 := Eq.symm eJ
      subst eJ
      have eQ : Q = Q21 := Eq.symm eQ
      subst eQ
      try dsimp only at hw hWF
      refine g_iload_n C dX11_foreseen_80 rfl 0 rfl ?_
      refine g_if_eq (tgt := 88) C dX11_foreseen_81 (by decide) (fun c22 => absurd c22 (by decide)) (fun _ => ?_)
      refine g_iload_n C dX11_foreseen_84 rfl 2 rfl ?_
      refine g_goto C dX11_foreseen_85 (tgt := 90) (by decide) ?_
      exact g_iret C dX11_foreseen_90 hr ⟨hw, rfl, rfl, hWF⟩
  have L17_u10 : ∀ (n17 : Nat) (I_4 : KI) (x1_4 : Int32), wp_X11_foreseen_L17 Q h0 (fun I_11 x1_11 => wp_X11_whole I_11 Q h0 (fun r12 => ((¬ r12 = (I_11 (rq Q h0 0) (0 : Int32).toNatClampNeg) → wp_X11_copies I_11 (rq Q h0 8) 69 (0 : Int32) (rq Q h0 0) 69 (0 : Int32) (69 : Int32) (fun I17 => post (-4 : Int32) I17)) ∧ (r12 = (I_11 (rq Q h0 0) (0 : Int32).toNatClampNeg) → wp_X11_copies I_11 (rq Q h0 8) 69 (0 : Int32) (rq Q h0 0) 69 (0 : Int32) (69 : Int32) (fun I21 => post x1_11 I21))))) n17 I_4 x1_4 → WF Z N T Q → GG p l e ({ frames := 7, cells := 0, slots := 0, locals := 163 }) s m [.ref (ad h0)].toArray below meth c 3 A D D2 0 0 (MQ below (va_Qi (fun (r : Int32) (u : KS) => post r u.1 ∧ u.2.1 = J ∧ u.2.2 = Q ∧ WF Z N T u.2.2) (Bw D D2 ad N T) A) [.ref (ad h0)].toArray s 0 0 A) ad N T I_4 J Q 17 [(0, .ref (ad h0)), (1, .int x1_4)] [] := by
    intro n17
    induction n17 with
    | zero => intro I_4 x1_4 hw; exact hw.elim
    | succ n17 ih_u10 =>
      intro I_4 x1_4 hw hWF
      unfold wp_X11_foreseen_L17 at hw
      refine g_iload_n C dX11_foreseen_17 rfl 1 rfl ?_
      refine g_bipush (v := (60 : Int32)) C dX11_foreseen_18 (by decide) ?_
      refine g_icmp_ge (tgt := 46) C dX11_foreseen_20 (by decide) (fun c24 => ?_) (fun c24 => ?_)
      · have hw := hw.1 c24
        exact K46_u10 I_4 x1_4 hw hWF
      · have hw := hw.2 c24
        refine g_aload_n C dX11_foreseen_23 rfl 0 rfl ?_
        refine g_callVi (As := []) C dX11_foreseen_24 ft_387 z0 ft_440 ft_441 (met_X11_whole l hWF z0 hw) ⟨rfl, rfl, Nat.le_of_ble_eq_true rfl, Nat.le_of_ble_eq_true rfl⟩ ⟨Nat.zero_le _, Nat.zero_le _⟩ rfl rfl (Nat.le_of_ble_eq_true rfl) (fun r25 I25 J25 Q25 hp => ?_)
        obtain ⟨hw, eI, eJ, eQ, hWF⟩ := hp
        have eI : I_4 = I25 := Eq.symm eI
        subst eI
        have eJ : J = J25 := Eq.symm eJ
        subst eJ
        have eQ : Q = Q25 := Eq.symm eQ
        subst eQ
        try dsimp only at hw hWF
        refine g_aload_n C dX11_foreseen_27 rfl 0 rfl ?_
        refine g_getQ C dX11_foreseen_28 ft_363 z0 (hWF.q z0 0 rfl) ?_
        have zz26 := hWF.r z0 0 rfl
        refine g_iconst (v := (0 : Int32)) C dX11_foreseen_31 (by decide) ?_
        refine g_iald C dX11_foreseen_32 zz26 (vp_lit (by decide +kernel)) ?_
        refine g_icmp_ge (tgt := 46) C dX11_foreseen_33 (by decide) (fun c27 => ?_) (fun c27 => ?_)
        · have hw := hw.1 c27
          exact K46_u10 I_4 x1_4 hw hWF
        · have hw := hw.2 c27
          refine g_aload_n C dX11_foreseen_36 rfl 0 rfl ?_
          refine g_callVv (As := []) C dX11_foreseen_37 ft_387 z0 ft_443 ft_444 (met_X11_goes l hWF z0 hw) ⟨rfl, rfl, Nat.le_of_ble_eq_true rfl, Nat.le_of_ble_eq_true rfl⟩ ⟨Nat.zero_le _, Nat.zero_le _⟩ rfl rfl (Nat.le_of_ble_eq_true rfl) (fun I28 J28 Q28 hp => ?_)
          obtain ⟨hw, eJ, eQ, hWF⟩ := hp
          have eJ : J = J28 := Eq.symm eJ
          subst eJ
          have eQ : Q = Q28 := Eq.symm eQ
          subst eQ
          try dsimp only at hw hWF
          refine g_iinc (v := (x1_4 + (1 : Int32))) (lv' := [(1, .int (x1_4 + (1 : Int32))), (0, .ref (ad h0))]) C dX11_foreseen_40 (q := 1) rfl rfl (by decide) rfl ?_
          refine g_goto C dX11_foreseen_43 (tgt := 17) (by decide) ?_
          refine g_sub [1, 0] rfl ?_
          exact ih_u10 I28 (x1_4 + (1 : Int32)) hw hWF
  obtain ⟨n_u10, hw⟩ := hw
  refine g_sub [1, 0] rfl ?_
  exact L17_u10 n_u10 I3 (0 : Int32) hw hWF
def wp_X11_areAlike_L49 (If_8 : KI) (Qf_8 : KQ) (f0_8 : Nat) (f1_8 : Int32) (f2_8 : Int32) (f3_8 : Int32) (f4_8 : Int32) (f6_8 : Int32) (k144 : Int32 → Int32 → Prop) : Nat → Int32 → Int32 → Int32 → Prop
  | 0, _, _, _ => False
  | n49 + 1, x7_8, x8_8, x9_8 => ((f4_8 ≤ x9_8 → k144 x7_8 x8_8) ∧ (¬ f4_8 ≤ x9_8 → (vp_in x9_8 6 ∧ ((fun (k12 : Int32 → Prop) => ((¬ (If_8 (rq Qf_8 f0_8 15) x9_8.toNatClampNeg) = f6_8 → k12 (0 : Int32)) ∧ ((If_8 (rq Qf_8 f0_8 15) x9_8.toNatClampNeg) = f6_8 → ((x9_8 = f1_8 → k12 (0 : Int32)) ∧ (¬ x9_8 = f1_8 → wp_X11_linkOf f1_8 x9_8 (fun r14 => wp_X11_has f3_8 r14 (fun r15 => ((r15 = 0 → k12 (0 : Int32)) ∧ (¬ r15 = 0 → k12 (1 : Int32)))))))))) (fun s0_12 => (vp_in x9_8 6 ∧ ((fun (k19 : Int32 → Prop) => ((¬ (If_8 (rq Qf_8 f0_8 15) x9_8.toNatClampNeg) = f6_8 → k19 (0 : Int32)) ∧ ((If_8 (rq Qf_8 f0_8 15) x9_8.toNatClampNeg) = f6_8 → ((x9_8 = f2_8 → k19 (0 : Int32)) ∧ (¬ x9_8 = f2_8 → wp_X11_linkOf f2_8 x9_8 (fun r21 => wp_X11_has f3_8 r21 (fun r22 => ((r22 = 0 → k19 (0 : Int32)) ∧ (¬ r22 = 0 → k19 (1 : Int32)))))))))) (fun s0_19 => wp_X11_areAlike_L49 If_8 Qf_8 f0_8 f1_8 f2_8 f3_8 f4_8 f6_8 k144 n49 (x7_8 + s0_12) (x8_8 + s0_19) (x9_8 + (1 : Int32))))))))))
def wp_X11_areAlike_L33 (If_6 : KI) (Qf_6 : KQ) (f0_6 : Nat) (f1_6 : Int32) (f2_6 : Int32) (f3_6 : Int32) (f4_6 : Int32) (post : Int32 → Prop) : Nat → Int32 → Int32 → Prop
  | 0, _, _ => False
  | n33 + 1, x5_6, x6_6 => ((f4_6 ≤ x6_6 → ((x5_6 = 0 ∨ x5_6 = 1) ∧ post x5_6)) ∧ (¬ f4_6 ≤ x6_6 → (∃ q49, wp_X11_areAlike_L49 If_6 Qf_6 f0_6 f1_6 f2_6 f3_6 f4_6 x6_6 (fun x7_25 x8_25 => ((fun (k27 : Int32 → Prop) => ((x5_6 = 0 → k27 (0 : Int32)) ∧ (¬ x5_6 = 0 → ((¬ x7_25 = x8_25 → k27 (0 : Int32)) ∧ (x7_25 = x8_25 → k27 (1 : Int32)))))) (fun s0_27 => wp_X11_areAlike_L33 If_6 Qf_6 f0_6 f1_6 f2_6 f3_6 f4_6 post n33 s0_27 (x6_6 + (1 : Int32))))) q49 (0 : Int32) (0 : Int32) (0 : Int32))))
def wp_X11_areAlike (I : KI) (Q : KQ) (h0 : Nat) (x1 : Int32) (x2 : Int32) (x3 : Int32) (post : Int32 → Prop) : Prop := (vp_in x1 6 ∧ (vp_in x2 6 ∧ ((fun (k5 : Int32 → Prop) => ((¬ (I (rq Q h0 15) x1.toNatClampNeg) = (I (rq Q h0 15) x2.toNatClampNeg) → k5 (0 : Int32)) ∧ ((I (rq Q h0 15) x1.toNatClampNeg) = (I (rq Q h0 15) x2.toNatClampNeg) → k5 (1 : Int32)))) (fun s0_5 => (∃ q33, wp_X11_areAlike_L33 I Q h0 x1 x2 x3 (I (rq Q h0 0) (0 : Int32).toNatClampNeg) post q33 s0_5 (0 : Int32))))))
set_option maxHeartbeats 4000000 in
set_option maxRecDepth 100000 in
theorem met_X11_areAlike {Z : Nat → Prop} {A : Nat → Prop} {D : va_G} {D2 : Nat → ClassId} {ad : Nat → Nat} {N : Nat} {T : Nat → Nat × Nat} (l : Launch) {I : KI} {J : KJ} {Q : KQ} {h0 : Nat} {x1 : Int32} {x2 : Int32} {x3 : Int32} {post : Int32 → Prop} (hWF : WF Z N T Q) (z0 : OKr Z N T h0 (11, 0)) (hw : wp_X11_areAlike I Q h0 x1 x2 x3 post) : Met l yX11_areAlike (.code yX11_areAlike cX11_areAlike 10 (some .boolean) :: BIG) ({ frames := 1, cells := 0, slots := 0, locals := 21 }) (Pr D D2 A ad N T I J Q [.ref (ad h0), .int x1, .int x2, .int x3]) (va_Qi (fun (r : Int32) (u : KS) => post r ∧ u.1 = I ∧ u.2.1 = J ∧ u.2.2 = Q ∧ WF Z N T u.2.2) (Bw D D2 ad N T) A) 0 0 A := by
  refine Met_GG (lv0 := [(0, .ref (ad h0)), (1, .int x1), (2, .int x2), (3, .int x3)]) (by decide +kernel) [.ref (ad h0), .int x1, .int x2, .int x3] (Nat.le_of_ble_eq_true rfl) rfl ?_
  intro p e s m below meth c C hr
  have C : CX p s m [.ref (ad h0), .int x1, .int x2, .int x3].toArray meth c cX11_areAlike 10 RX11 A D D2 := C
  unfold wp_X11_areAlike at hw
  refine g_aload_n C dX11_areAlike_0 rfl 0 rfl ?_
  refine g_getQ C dX11_areAlike_1 ft_363 z0 (hWF.q z0 0 rfl) ?_
  have zz1 := hWF.r z0 0 rfl
  refine g_iconst (v := (0 : Int32)) C dX11_areAlike_4 (by decide) ?_
  refine g_iald C dX11_areAlike_5 zz1 (vp_lit (by decide +kernel)) ?_
  refine g_istore (lv' := [(4, .int (I (rq Q h0 0) (0 : Int32).toNatClampNeg)), (0, .ref (ad h0)), (1, .int x1), (2, .int x2), (3, .int x3)]) C dX11_areAlike_6 (by decide) rfl ?_
  refine g_aload_n C dX11_areAlike_8 rfl 1 rfl ?_
  refine g_getQ C dX11_areAlike_9 ft_452 z0 (hWF.q z0 15 rfl) ?_
  have zz2 := hWF.r z0 15 rfl
  refine g_iload_n C dX11_areAlike_12 rfl 2 rfl ?_
  refine g_iald C dX11_areAlike_13 zz2 hw.1 ?_
  have hw := hw.2
  refine g_aload_n C dX11_areAlike_14 rfl 1 rfl ?_
  refine g_getQ C dX11_areAlike_15 ft_452 z0 (hWF.q z0 15 rfl) ?_
  have zz3 := hWF.r z0 15 rfl
  refine g_iload_n C dX11_areAlike_18 rfl 3 rfl ?_
  refine g_iald C dX11_areAlike_19 zz3 hw.1 ?_
  have hw := hw.2
  have J5 : ∀ (s0_5 : Int32), ((∃ q33, wp_X11_areAlike_L33 I Q h0 x1 x2 x3 (I (rq Q h0 0) (0 : Int32).toNatClampNeg) post q33 s0_5 (0 : Int32))) → WF Z N T Q → GG p l e ({ frames := 1, cells := 0, slots := 0, locals := 21 }) s m [.ref (ad h0), .int x1, .int x2, .int x3].toArray below meth c 10 A D D2 0 0 (MQ below (va_Qi (fun (r : Int32) (u : KS) => post r ∧ u.1 = I ∧ u.2.1 = J ∧ u.2.2 = Q ∧ WF Z N T u.2.2) (Bw D D2 ad N T) A) [.ref (ad h0), .int x1, .int x2, .int x3].toArray s 0 0 A) ad N T I J Q 28 [(0, .ref (ad h0)), (1, .int x1), (2, .int x2), (3, .int x3), (4, .int (I (rq Q h0 0) (0 : Int32).toNatClampNeg))] [.int s0_5] := by
    intro s0_5 hw hWF
    refine g_istore (lv' := [(5, .int s0_5), (0, .ref (ad h0)), (1, .int x1), (2, .int x2), (3, .int x3), (4, .int (I (rq Q h0 0) (0 : Int32).toNatClampNeg))]) C dX11_areAlike_28 (by decide) rfl ?_
    refine g_iconst (v := (0 : Int32)) C dX11_areAlike_30 (by decide) ?_
    refine g_istore (lv' := [(6, .int (0 : Int32)), (5, .int s0_5), (0, .ref (ad h0)), (1, .int x1), (2, .int x2), (3, .int x3), (4, .int (I (rq Q h0 0) (0 : Int32).toNatClampNeg))]) C dX11_areAlike_31 (by decide) rfl ?_
    have L33_u45 : ∀ (n33 : Nat) (x5_6 : Int32) (x6_6 : Int32), wp_X11_areAlike_L33 I Q h0 x1 x2 x3 (I (rq Q h0 0) (0 : Int32).toNatClampNeg) post n33 x5_6 x6_6 → WF Z N T Q → GG p l e ({ frames := 1, cells := 0, slots := 0, locals := 21 }) s m [.ref (ad h0), .int x1, .int x2, .int x3].toArray below meth c 10 A D D2 0 0 (MQ below (va_Qi (fun (r : Int32) (u : KS) => post r ∧ u.1 = I ∧ u.2.1 = J ∧ u.2.2 = Q ∧ WF Z N T u.2.2) (Bw D D2 ad N T) A) [.ref (ad h0), .int x1, .int x2, .int x3].toArray s 0 0 A) ad N T I J Q 33 [(0, .ref (ad h0)), (1, .int x1), (2, .int x2), (3, .int x3), (4, .int (I (rq Q h0 0) (0 : Int32).toNatClampNeg)), (5, .int x5_6), (6, .int x6_6)] [] := by
      intro n33
      induction n33 with
      | zero => intro x5_6 x6_6 hw; exact hw.elim
      | succ n33 ih_u45 =>
        intro x5_6 x6_6 hw hWF
        unfold wp_X11_areAlike_L33 at hw
        refine g_iload C dX11_areAlike_33 6 rfl ?_
        refine g_iload C dX11_areAlike_35 4 rfl ?_
        refine g_icmp_ge (tgt := 169) C dX11_areAlike_37 (by decide) (fun c47 => ?_) (fun c47 => ?_)
        · have hw := hw.1 c47
          refine g_iload C dX11_areAlike_169 5 rfl ?_
          exact g_zret C dX11_areAlike_171 hr (nar_b hw.1) ⟨hw.2, rfl, rfl, rfl, hWF⟩
        · have hw := hw.2 c47
          refine g_iconst (v := (0 : Int32)) C dX11_areAlike_40 (by decide) ?_
          refine g_istore (lv' := [(7, .int (0 : Int32)), (0, .ref (ad h0)), (1, .int x1), (2, .int x2), (3, .int x3), (4, .int (I (rq Q h0 0) (0 : Int32).toNatClampNeg)), (5, .int x5_6), (6, .int x6_6)]) C dX11_areAlike_41 (by decide) rfl ?_
          refine g_iconst (v := (0 : Int32)) C dX11_areAlike_43 (by decide) ?_
          refine g_istore (lv' := [(8, .int (0 : Int32)), (7, .int (0 : Int32)), (0, .ref (ad h0)), (1, .int x1), (2, .int x2), (3, .int x3), (4, .int (I (rq Q h0 0) (0 : Int32).toNatClampNeg)), (5, .int x5_6), (6, .int x6_6)]) C dX11_areAlike_44 (by decide) rfl ?_
          refine g_iconst (v := (0 : Int32)) C dX11_areAlike_46 (by decide) ?_
          refine g_istore (lv' := [(9, .int (0 : Int32)), (8, .int (0 : Int32)), (7, .int (0 : Int32)), (0, .ref (ad h0)), (1, .int x1), (2, .int x2), (3, .int x3), (4, .int (I (rq Q h0 0) (0 : Int32).toNatClampNeg)), (5, .int x5_6), (6, .int x6_6)]) C dX11_areAlike_47 (by decide) rfl ?_
          have K144_u49 : ∀ (x7_50 : Int32) (x8_50 : Int32), (((fun (k52 : Int32 → Prop) => ((x5_6 = 0 → k52 (0 : Int32)) ∧ (¬ x5_6 = 0 → ((¬ x7_50 = x8_50 → k52 (0 : Int32)) ∧ (x7_50 = x8_50 → k52 (1 : Int32)))))) (fun s0_52 => wp_X11_areAlike_L33 I Q h0 x1 x2 x3 (I (rq Q h0 0) (0 : Int32).toNatClampNeg) post n33 s0_52 (x6_6 + (1 : Int32))))) → WF Z N T Q → GG p l e ({ frames := 1, cells := 0, slots := 0, locals := 21 }) s m [.ref (ad h0), .int x1, .int x2, .int x3].toArray below meth c 10 A D D2 0 0 (MQ below (va_Qi (fun (r : Int32) (u : KS) => post r ∧ u.1 = I ∧ u.2.1 = J ∧ u.2.2 = Q ∧ WF Z N T u.2.2) (Bw D D2 ad N T) A) [.ref (ad h0), .int x1, .int x2, .int x3].toArray s 0 0 A) ad N T I J Q 144 [(0, .ref (ad h0)), (1, .int x1), (2, .int x2), (3, .int x3), (4, .int (I (rq Q h0 0) (0 : Int32).toNatClampNeg)), (5, .int x5_6), (6, .int x6_6), (7, .int x7_50), (8, .int x8_50)] [] := by
            intro x7_50 x8_50 hw hWF
            refine g_iload C dX11_areAlike_144 5 rfl ?_
            have J52 : ∀ (s0_52 : Int32), (wp_X11_areAlike_L33 I Q h0 x1 x2 x3 (I (rq Q h0 0) (0 : Int32).toNatClampNeg) post n33 s0_52 (x6_6 + (1 : Int32))) → WF Z N T Q → GG p l e ({ frames := 1, cells := 0, slots := 0, locals := 21 }) s m [.ref (ad h0), .int x1, .int x2, .int x3].toArray below meth c 10 A D D2 0 0 (MQ below (va_Qi (fun (r : Int32) (u : KS) => post r ∧ u.1 = I ∧ u.2.1 = J ∧ u.2.2 = Q ∧ WF Z N T u.2.2) (Bw D D2 ad N T) A) [.ref (ad h0), .int x1, .int x2, .int x3].toArray s 0 0 A) ad N T I J Q 161 [(0, .ref (ad h0)), (1, .int x1), (2, .int x2), (3, .int x3), (4, .int (I (rq Q h0 0) (0 : Int32).toNatClampNeg)), (6, .int x6_6)] [.int s0_52] := by
              intro s0_52 hw hWF
              refine g_istore (lv' := [(5, .int s0_52), (0, .ref (ad h0)), (1, .int x1), (2, .int x2), (3, .int x3), (4, .int (I (rq Q h0 0) (0 : Int32).toNatClampNeg)), (6, .int x6_6)]) C dX11_areAlike_161 (by decide) rfl ?_
              refine g_iinc (v := (x6_6 + (1 : Int32))) (lv' := [(6, .int (x6_6 + (1 : Int32))), (5, .int s0_52), (0, .ref (ad h0)), (1, .int x1), (2, .int x2), (3, .int x3), (4, .int (I (rq Q h0 0) (0 : Int32).toNatClampNeg))]) C dX11_areAlike_163 (q := 6) rfl rfl (by decide) rfl ?_
              refine g_goto C dX11_areAlike_166 (tgt := 33) (by decide) ?_
              refine g_sub [2, 3, 4, 5, 6, 1, 0] rfl ?_
              exact ih_u45 s0_52 (x6_6 + (1 : Int32)) hw hWF
            refine g_if_eq (tgt := 160) C dX11_areAlike_146 (by decide) (fun c51 => ?_) (fun c51 => ?_)
            · have hw := hw.1 c51
              refine g_iconst (v := (0 : Int32)) C dX11_areAlike_160 (by decide) ?_
              refine g_sub [0, 1, 2, 3, 4, 6] rfl ?_
              exact J52 (0 : Int32) hw hWF
            · have hw := hw.2 c51
              refine g_iload C dX11_areAlike_149 7 rfl ?_
              refine g_iload C dX11_areAlike_151 8 rfl ?_
              refine g_icmp_ne (tgt := 160) C dX11_areAlike_153 (by decide) (fun c53 => ?_) (fun c53 => ?_)
              · have hw := hw.1 c53
                refine g_iconst (v := (0 : Int32)) C dX11_areAlike_160 (by decide) ?_
                refine g_sub [0, 1, 2, 3, 4, 6] rfl ?_
                exact J52 (0 : Int32) hw hWF
              · have hw := hw.2 c53
                refine g_iconst (v := (1 : Int32)) C dX11_areAlike_156 (by decide) ?_
                refine g_goto C dX11_areAlike_157 (tgt := 161) (by decide) ?_
                refine g_sub [0, 1, 2, 3, 4, 6] rfl ?_
                exact J52 (1 : Int32) hw hWF
          have L49_u49 : ∀ (n49 : Nat) (x7_8 : Int32) (x8_8 : Int32) (x9_8 : Int32), wp_X11_areAlike_L49 I Q h0 x1 x2 x3 (I (rq Q h0 0) (0 : Int32).toNatClampNeg) x6_6 (fun x7_50 x8_50 => ((fun (k52 : Int32 → Prop) => ((x5_6 = 0 → k52 (0 : Int32)) ∧ (¬ x5_6 = 0 → ((¬ x7_50 = x8_50 → k52 (0 : Int32)) ∧ (x7_50 = x8_50 → k52 (1 : Int32)))))) (fun s0_52 => wp_X11_areAlike_L33 I Q h0 x1 x2 x3 (I (rq Q h0 0) (0 : Int32).toNatClampNeg) post n33 s0_52 (x6_6 + (1 : Int32))))) n49 x7_8 x8_8 x9_8 → WF Z N T Q → GG p l e ({ frames := 1, cells := 0, slots := 0, locals := 21 }) s m [.ref (ad h0), .int x1, .int x2, .int x3].toArray below meth c 10 A D D2 0 0 (MQ below (va_Qi (fun (r : Int32) (u : KS) => post r ∧ u.1 = I ∧ u.2.1 = J ∧ u.2.2 = Q ∧ WF Z N T u.2.2) (Bw D D2 ad N T) A) [.ref (ad h0), .int x1, .int x2, .int x3].toArray s 0 0 A) ad N T I J Q 49 [(0, .ref (ad h0)), (1, .int x1), (2, .int x2), (3, .int x3), (4, .int (I (rq Q h0 0) (0 : Int32).toNatClampNeg)), (5, .int x5_6), (6, .int x6_6), (7, .int x7_8), (8, .int x8_8), (9, .int x9_8)] [] := by
            intro n49
            induction n49 with
            | zero => intro x7_8 x8_8 x9_8 hw; exact hw.elim
            | succ n49 ih_u49 =>
              intro x7_8 x8_8 x9_8 hw hWF
              unfold wp_X11_areAlike_L49 at hw
              refine g_iload C dX11_areAlike_49 9 rfl ?_
              refine g_iload C dX11_areAlike_51 4 rfl ?_
              refine g_icmp_ge (tgt := 144) C dX11_areAlike_53 (by decide) (fun c55 => ?_) (fun c55 => ?_)
              · have hw := hw.1 c55
                refine g_sub [0, 1, 2, 3, 4, 5, 6, 7, 8] rfl ?_
                exact K144_u49 x7_8 x8_8 hw hWF
              · have hw := hw.2 c55
                refine g_iload C dX11_areAlike_56 7 rfl ?_
                refine g_aload_n C dX11_areAlike_58 rfl 0 rfl ?_
                refine g_getQ C dX11_areAlike_59 ft_452 z0 (hWF.q z0 15 rfl) ?_
                have zz56 := hWF.r z0 15 rfl
                refine g_iload C dX11_areAlike_62 9 rfl ?_
                refine g_iald C dX11_areAlike_64 zz56 hw.1 ?_
                have hw := hw.2
                refine g_iload C dX11_areAlike_65 6 rfl ?_
                have J58 : ∀ (s0_58 : Int32), ((vp_in x9_8 6 ∧ ((fun (k65 : Int32 → Prop) => ((¬ (I (rq Q h0 15) x9_8.toNatClampNeg) = x6_6 → k65 (0 : Int32)) ∧ ((I (rq Q h0 15) x9_8.toNatClampNeg) = x6_6 → ((x9_8 = x2 → k65 (0 : Int32)) ∧ (¬ x9_8 = x2 → wp_X11_linkOf x2 x9_8 (fun r67 => wp_X11_has x3 r67 (fun r68 => ((r68 = 0 → k65 (0 : Int32)) ∧ (¬ r68 = 0 → k65 (1 : Int32)))))))))) (fun s0_65 => wp_X11_areAlike_L49 I Q h0 x1 x2 x3 (I (rq Q h0 0) (0 : Int32).toNatClampNeg) x6_6 (fun x7_50 x8_50 => ((fun (k52 : Int32 → Prop) => ((x5_6 = 0 → k52 (0 : Int32)) ∧ (¬ x5_6 = 0 → ((¬ x7_50 = x8_50 → k52 (0 : Int32)) ∧ (x7_50 = x8_50 → k52 (1 : Int32)))))) (fun s0_52 => wp_X11_areAlike_L33 I Q h0 x1 x2 x3 (I (rq Q h0 0) (0 : Int32).toNatClampNeg) post n33 s0_52 (x6_6 + (1 : Int32))))) n49 (x7_8 + s0_58) (x8_8 + s0_65) (x9_8 + (1 : Int32)))))) → WF Z N T Q → GG p l e ({ frames := 1, cells := 0, slots := 0, locals := 21 }) s m [.ref (ad h0), .int x1, .int x2, .int x3].toArray below meth c 10 A D D2 0 0 (MQ below (va_Qi (fun (r : Int32) (u : KS) => post r ∧ u.1 = I ∧ u.2.1 = J ∧ u.2.2 = Q ∧ WF Z N T u.2.2) (Bw D D2 ad N T) A) [.ref (ad h0), .int x1, .int x2, .int x3].toArray s 0 0 A) ad N T I J Q 94 [(0, .ref (ad h0)), (1, .int x1), (2, .int x2), (3, .int x3), (4, .int (I (rq Q h0 0) (0 : Int32).toNatClampNeg)), (5, .int x5_6), (6, .int x6_6), (8, .int x8_8), (9, .int x9_8)] [.int s0_58, .int x7_8] := by
                  intro s0_58 hw hWF
                  refine g_iadd C dX11_areAlike_94 ?_
                  refine g_istore (lv' := [(7, .int (x7_8 + s0_58)), (0, .ref (ad h0)), (1, .int x1), (2, .int x2), (3, .int x3), (4, .int (I (rq Q h0 0) (0 : Int32).toNatClampNeg)), (5, .int x5_6), (6, .int x6_6), (8, .int x8_8), (9, .int x9_8)]) C dX11_areAlike_95 (by decide) rfl ?_
                  refine g_iload C dX11_areAlike_97 8 rfl ?_
                  refine g_aload_n C dX11_areAlike_99 rfl 1 rfl ?_
                  refine g_getQ C dX11_areAlike_100 ft_452 z0 (hWF.q z0 15 rfl) ?_
                  have zz63 := hWF.r z0 15 rfl
                  refine g_iload C dX11_areAlike_103 9 rfl ?_
                  refine g_iald C dX11_areAlike_105 zz63 hw.1 ?_
                  have hw := hw.2
                  refine g_iload C dX11_areAlike_106 7 rfl ?_
                  have J65 : ∀ (s0_65 : Int32), (wp_X11_areAlike_L49 I Q h0 x1 x2 x3 (I (rq Q h0 0) (0 : Int32).toNatClampNeg) x6_6 (fun x7_50 x8_50 => ((fun (k52 : Int32 → Prop) => ((x5_6 = 0 → k52 (0 : Int32)) ∧ (¬ x5_6 = 0 → ((¬ x7_50 = x8_50 → k52 (0 : Int32)) ∧ (x7_50 = x8_50 → k52 (1 : Int32)))))) (fun s0_52 => wp_X11_areAlike_L33 I Q h0 x1 x2 x3 (I (rq Q h0 0) (0 : Int32).toNatClampNeg) post n33 s0_52 (x6_6 + (1 : Int32))))) n49 (x7_8 + s0_58) (x8_8 + s0_65) (x9_8 + (1 : Int32))) → WF Z N T Q → GG p l e ({ frames := 1, cells := 0, slots := 0, locals := 21 }) s m [.ref (ad h0), .int x1, .int x2, .int x3].toArray below meth c 10 A D D2 0 0 (MQ below (va_Qi (fun (r : Int32) (u : KS) => post r ∧ u.1 = I ∧ u.2.1 = J ∧ u.2.2 = Q ∧ WF Z N T u.2.2) (Bw D D2 ad N T) A) [.ref (ad h0), .int x1, .int x2, .int x3].toArray s 0 0 A) ad N T I J Q 135 [(0, .ref (ad h0)), (1, .int x1), (2, .int x2), (3, .int x3), (4, .int (I (rq Q h0 0) (0 : Int32).toNatClampNeg)), (5, .int x5_6), (6, .int x6_6), (7, .int (x7_8 + s0_58)), (9, .int x9_8)] [.int s0_65, .int x8_8] := by
                    intro s0_65 hw hWF
                    refine g_iadd C dX11_areAlike_135 ?_
                    refine g_istore (lv' := [(8, .int (x8_8 + s0_65)), (0, .ref (ad h0)), (1, .int x1), (2, .int x2), (3, .int x3), (4, .int (I (rq Q h0 0) (0 : Int32).toNatClampNeg)), (5, .int x5_6), (6, .int x6_6), (7, .int (x7_8 + s0_58)), (9, .int x9_8)]) C dX11_areAlike_136 (by decide) rfl ?_
                    refine g_iinc (v := (x9_8 + (1 : Int32))) (lv' := [(9, .int (x9_8 + (1 : Int32))), (8, .int (x8_8 + s0_65)), (0, .ref (ad h0)), (1, .int x1), (2, .int x2), (3, .int x3), (4, .int (I (rq Q h0 0) (0 : Int32).toNatClampNeg)), (5, .int x5_6), (6, .int x6_6), (7, .int (x7_8 + s0_58))]) C dX11_areAlike_138 (q := 9) rfl rfl (by decide) rfl ?_
                    refine g_goto C dX11_areAlike_141 (tgt := 49) (by decide) ?_
                    refine g_sub [2, 3, 4, 5, 6, 7, 8, 9, 1, 0] rfl ?_
                    exact ih_u49 (x7_8 + s0_58) (x8_8 + s0_65) (x9_8 + (1 : Int32)) hw hWF
                  refine g_icmp_ne (tgt := 134) C dX11_areAlike_108 (by decide) (fun c64 => ?_) (fun c64 => ?_)
                  · have hw := hw.1 c64
                    refine g_iconst (v := (0 : Int32)) C dX11_areAlike_134 (by decide) ?_
                    refine g_sub [1, 2, 3, 4, 5, 6, 7, 0, 9] rfl ?_
                    exact J65 (0 : Int32) hw hWF
                  · have hw := hw.2 c64
                    refine g_iload C dX11_areAlike_111 9 rfl ?_
                    refine g_iload_n C dX11_areAlike_113 rfl 3 rfl ?_
                    refine g_icmp_eq (tgt := 134) C dX11_areAlike_114 (by decide) (fun c66 => ?_) (fun c66 => ?_)
                    · have hw := hw.1 c66
                      refine g_iconst (v := (0 : Int32)) C dX11_areAlike_134 (by decide) ?_
                      refine g_sub [1, 2, 3, 4, 5, 6, 7, 0, 9] rfl ?_
                      exact J65 (0 : Int32) hw hWF
                    · have hw := hw.2 c66
                      refine g_iload_n C dX11_areAlike_117 rfl 4 rfl ?_
                      refine g_iload_n C dX11_areAlike_118 rfl 3 rfl ?_
                      refine g_iload C dX11_areAlike_119 9 rfl ?_
                      refine g_callSi (As := [.int x2, .int x9_8]) C dX11_areAlike_121 ft_365 ft_366 (met_X11_linkOf l hWF  hw) ⟨rfl, rfl, Nat.le_of_ble_eq_true rfl, Nat.le_of_ble_eq_true rfl⟩ ⟨Nat.zero_le _, Nat.zero_le _⟩ rfl rfl (Nat.le_of_ble_eq_true rfl) (fun r67 I67 J67 Q67 hp => ?_)
                      obtain ⟨hw, eI, eJ, eQ, hWF⟩ := hp
                      have eI : I = I67 := Eq.symm eI
                      subst eI
                      have eJ : J = J67 := Eq.symm eJ
                      subst eJ
                      have eQ : Q = Q67 := Eq.symm eQ
                      subst eQ
                      try dsimp only at hw hWF
                      refine g_callSi (As := [.int x3, .int r67]) C dX11_areAlike_124 ft_381 ft_382 (met_X11_has l hWF  hw) ⟨rfl, rfl, Nat.le_of_ble_eq_true rfl, Nat.le_of_ble_eq_true rfl⟩ ⟨Nat.zero_le _, Nat.zero_le _⟩ rfl rfl (Nat.le_of_ble_eq_true rfl) (fun r68 I68 J68 Q68 hp => ?_)
                      obtain ⟨hw, eI, eJ, eQ, hWF⟩ := hp
                      have eI : I = I68 := Eq.symm eI
                      subst eI
                      have eJ : J = J68 := Eq.symm eJ
                      subst eJ
                      have eQ : Q = Q68 := Eq.symm eQ
                      subst eQ
                      try dsimp only at hw hWF
                      refine g_if_eq (tgt := 134) C dX11_areAlike_127 (by decide) (fun c69 => ?_) (fun c69 => ?_)
                      · have hw := hw.1 c69
                        refine g_iconst (v := (0 : Int32)) C dX11_areAlike_134 (by decide) ?_
                        refine g_sub [1, 2, 3, 4, 5, 6, 7, 0, 9] rfl ?_
                        exact J65 (0 : Int32) hw hWF
                      · have hw := hw.2 c69
                        refine g_iconst (v := (1 : Int32)) C dX11_areAlike_130 (by decide) ?_
                        refine g_goto C dX11_areAlike_131 (tgt := 135) (by decide) ?_
                        refine g_sub [1, 2, 3, 4, 5, 6, 7, 0, 9] rfl ?_
                        exact J65 (1 : Int32) hw hWF
                refine g_icmp_ne (tgt := 93) C dX11_areAlike_67 (by decide) (fun c57 => ?_) (fun c57 => ?_)
                · have hw := hw.1 c57
                  refine g_iconst (v := (0 : Int32)) C dX11_areAlike_93 (by decide) ?_
                  refine g_sub [0, 1, 2, 3, 4, 5, 6, 8, 9] rfl ?_
                  exact J58 (0 : Int32) hw hWF
                · have hw := hw.2 c57
                  refine g_iload C dX11_areAlike_70 9 rfl ?_
                  refine g_iload_n C dX11_areAlike_72 rfl 1 rfl ?_
                  refine g_icmp_eq (tgt := 93) C dX11_areAlike_73 (by decide) (fun c59 => ?_) (fun c59 => ?_)
                  · have hw := hw.1 c59
                    refine g_iconst (v := (0 : Int32)) C dX11_areAlike_93 (by decide) ?_
                    refine g_sub [0, 1, 2, 3, 4, 5, 6, 8, 9] rfl ?_
                    exact J58 (0 : Int32) hw hWF
                  · have hw := hw.2 c59
                    refine g_iload_n C dX11_areAlike_76 rfl 3 rfl ?_
                    refine g_iload_n C dX11_areAlike_77 rfl 1 rfl ?_
                    refine g_iload C dX11_areAlike_78 9 rfl ?_
                    refine g_callSi (As := [.int x1, .int x9_8]) C dX11_areAlike_80 ft_365 ft_366 (met_X11_linkOf l hWF  hw) ⟨rfl, rfl, Nat.le_of_ble_eq_true rfl, Nat.le_of_ble_eq_true rfl⟩ ⟨Nat.zero_le _, Nat.zero_le _⟩ rfl rfl (Nat.le_of_ble_eq_true rfl) (fun r60 I60 J60 Q60 hp => ?_)
                    obtain ⟨hw, eI, eJ, eQ, hWF⟩ := hp
                    have eI : I = I60 := Eq.symm eI
                    subst eI
                    have eJ : J = J60 := Eq.symm eJ
                    subst eJ
                    have eQ : Q = Q60 := Eq.symm eQ
                    subst eQ
                    try dsimp only at hw hWF
                    refine g_callSi (As := [.int x3, .int r60]) C dX11_areAlike_83 ft_381 ft_382 (met_X11_has l hWF  hw) ⟨rfl, rfl, Nat.le_of_ble_eq_true rfl, Nat.le_of_ble_eq_true rfl⟩ ⟨Nat.zero_le _, Nat.zero_le _⟩ rfl rfl (Nat.le_of_ble_eq_true rfl) (fun r61 I61 J61 Q61 hp => ?_)
                    obtain ⟨hw, eI, eJ, eQ, hWF⟩ := hp
                    have eI : I = I61 := Eq.symm eI
                    subst eI
                    have eJ : J = J61 := Eq.symm eJ
                    subst eJ
                    have eQ : Q = Q61 := Eq.symm eQ
                    subst eQ
                    try dsimp only at hw hWF
                    refine g_if_eq (tgt := 93) C dX11_areAlike_86 (by decide) (fun c62 => ?_) (fun c62 => ?_)
                    · have hw := hw.1 c62
                      refine g_iconst (v := (0 : Int32)) C dX11_areAlike_93 (by decide) ?_
                      refine g_sub [0, 1, 2, 3, 4, 5, 6, 8, 9] rfl ?_
                      exact J58 (0 : Int32) hw hWF
                    · have hw := hw.2 c62
                      refine g_iconst (v := (1 : Int32)) C dX11_areAlike_89 (by decide) ?_
                      refine g_goto C dX11_areAlike_90 (tgt := 94) (by decide) ?_
                      refine g_sub [0, 1, 2, 3, 4, 5, 6, 8, 9] rfl ?_
                      exact J58 (1 : Int32) hw hWF
          obtain ⟨n_u49, hw⟩ := hw
          refine g_sub [3, 4, 5, 6, 7, 8, 9, 2, 1, 0] rfl ?_
          exact L49_u49 n_u49 (0 : Int32) (0 : Int32) (0 : Int32) hw hWF
    obtain ⟨n_u45, hw⟩ := hw
    refine g_sub [2, 3, 4, 5, 6, 1, 0] rfl ?_
    exact L33_u45 n_u45 s0_5 (0 : Int32) hw hWF
  refine g_icmp_ne (tgt := 27) C dX11_areAlike_20 (by decide) (fun c4 => ?_) (fun c4 => ?_)
  · have hw := hw.1 c4
    refine g_iconst (v := (0 : Int32)) C dX11_areAlike_27 (by decide) ?_
    refine g_sub [1, 2, 3, 4, 0] rfl ?_
    exact J5 (0 : Int32) hw hWF
  · have hw := hw.2 c4
    refine g_iconst (v := (1 : Int32)) C dX11_areAlike_23 (by decide) ?_
    refine g_goto C dX11_areAlike_24 (tgt := 28) (by decide) ?_
    refine g_sub [1, 2, 3, 4, 0] rfl ?_
    exact J5 (1 : Int32) hw hWF
