def wp_X11_gain_L32 (Qf_5 : KQ) (f0_5 : Nat) (f1_5 : Int32) (post : Int32 → KI → Prop) : Nat → KI → Int32 → Int32 → Prop
  | 0, _, _, _ => False
  | n32 + 1, I_5, x2_5, x3_5 => (((I_5 (rq Qf_5 f0_5 0) (0 : Int32).toNatClampNeg) ≤ x3_5 → post x2_5 I_5) ∧ (¬ (I_5 (rq Qf_5 f0_5 0) (0 : Int32).toNatClampNeg) ≤ x3_5 → wp_X11_present I_5 Qf_5 f0_5 (fun r8 => ((¬ f1_5 = (2 : Int32) → wp_X11_linkedBy r8 x3_5 (I_5 (rq Qf_5 f0_5 0) (0 : Int32).toNatClampNeg) (0 : Int32) (fun r11 => wp_X11_growth I_5 Qf_5 f0_5 x3_5 r11 (fun r12 I12 => wp_X11_gain_L32 Qf_5 f0_5 f1_5 post n32 I12 (x2_5 + r12) (x3_5 + (1 : Int32))))) ∧ (f1_5 = (2 : Int32) → wp_X11_linkedBy r8 x3_5 (I_5 (rq Qf_5 f0_5 0) (0 : Int32).toNatClampNeg) (1 : Int32) (fun r13 => wp_X11_growth I_5 Qf_5 f0_5 x3_5 r13 (fun r14 I14 => wp_X11_gain_L32 Qf_5 f0_5 f1_5 post n32 I14 (x2_5 + r14) (x3_5 + (1 : Int32)))))))))
def wp_X11_gain (I : KI) (Q : KQ) (h0 : Nat) (x1 : Int32) (post : Int32 → KI → Prop) : Prop := wp_X11_in (x1.toInt64) (0 : Int64) (2 : Int64) (fun r1 => ((¬ r1 = 0 → wp_X11_laysSends I Q h0 (fun I3 => ((¬ x1 = (1 : Int32) → (∃ q32, wp_X11_gain_L32 Q h0 x1 post q32 I3 (0 : Int32) (0 : Int32))) ∧ (x1 = (1 : Int32) → wp_X11_worst I3 Q h0 (fun r26 I26 => post r26 I26))))) ∧ (r1 = 0 → post (-1 : Int32) I)))
set_option maxHeartbeats 4000000 in
set_option maxRecDepth 100000 in
theorem met_X11_gain {Z : Nat → Prop} {A : Nat → Prop} {D : va_G} {D2 : Nat → ClassId} {ad : Nat → Nat} {N : Nat} {T : Nat → Nat × Nat} (l : Launch) {I : KI} {J : KJ} {Q : KQ} {h0 : Nat} {x1 : Int32} {post : Int32 → KI → Prop} (hWF : WF Z N T Q) (z0 : OKr Z N T h0 (11, 0)) (hw : wp_X11_gain I Q h0 x1 post) : Met l yX11_gain (.code yX11_gain cX11_gain 4 (some .int) :: BIG) ({ frames := 6, cells := 0, slots := 0, locals := 141 }) (Pr D D2 A ad N T I J Q [.ref (ad h0), .int x1]) (va_Qi (fun (r : Int32) (u : KS) => post r u.1 ∧ u.2.1 = J ∧ u.2.2 = Q ∧ WF Z N T u.2.2) (Bw D D2 ad N T) A) 0 0 A := by
  refine Met_GG (lv0 := [(0, .ref (ad h0)), (1, .int x1)]) (by decide +kernel) [.ref (ad h0), .int x1] (Nat.le_of_ble_eq_true rfl) rfl ?_
  intro p e s m below meth c C hr
  have C : CX p s m [.ref (ad h0), .int x1].toArray meth c cX11_gain 4 RX11 A D D2 := C
  unfold wp_X11_gain at hw
  refine g_iload_n C dX11_gain_0 rfl 1 rfl ?_
  refine g_i2l C dX11_gain_1 ?_
  refine g_lconst (v := (0 : Int64)) C dX11_gain_2 (by decide) ?_
  refine g_ldc2 C dX11_gain_3 ft_411 ?_
  refine g_callSi (As := [.long (x1.toInt64), .long (0 : Int64), .long (2 : Int64)]) C dX11_gain_6 ft_360 ft_361 (met_X11_in l hWF  hw) ⟨rfl, rfl, Nat.le_of_ble_eq_true rfl, Nat.le_of_ble_eq_true rfl⟩ ⟨Nat.zero_le _, Nat.zero_le _⟩ rfl rfl (Nat.le_of_ble_eq_true rfl) (fun r1 I1 J1 Q1 hp => ?_)
  obtain ⟨hw, eI, eJ, eQ, hWF⟩ := hp
  have eI : I = I1 := Eq.symm eI
  subst eI
  have eJ : J = J1 := Eq.symm eJ
  subst eJ
  have eQ : Q = Q1 := Eq.symm eQ
  subst eQ
  try dsimp only at hw hWF
  refine g_if_ne (tgt := 14) C dX11_gain_9 (by decide) (fun c2 => ?_) (fun c2 => ?_)
  · have hw := hw.1 c2
    refine g_aload_n C dX11_gain_14 rfl 0 rfl ?_
    refine g_callVv (As := []) C dX11_gain_15 ft_350 z0 ft_391 ft_392 (met_X11_laysSends l hWF z0 hw) ⟨rfl, rfl, Nat.le_of_ble_eq_true rfl, Nat.le_of_ble_eq_true rfl⟩ ⟨Nat.zero_le _, Nat.zero_le _⟩ rfl rfl (Nat.le_of_ble_eq_true rfl) (fun I3 J3 Q3 hp => ?_)
    obtain ⟨hw, eJ, eQ, hWF⟩ := hp
    have eJ : J = J3 := Eq.symm eJ
    subst eJ
    have eQ : Q = Q3 := Eq.symm eQ
    subst eQ
    try dsimp only at hw hWF
    refine g_iload_n C dX11_gain_18 rfl 1 rfl ?_
    refine g_iconst (v := (1 : Int32)) C dX11_gain_19 (by decide) ?_
    refine g_icmp_ne (tgt := 28) C dX11_gain_20 (by decide) (fun c4 => ?_) (fun c4 => ?_)
    · have hw := hw.1 c4
      refine g_iconst (v := (0 : Int32)) C dX11_gain_28 (by decide) ?_
      refine g_istore_n (lv' := [(2, .int (0 : Int32)), (0, .ref (ad h0)), (1, .int x1)]) C dX11_gain_29 rfl (by decide) rfl ?_
      refine g_iconst (v := (0 : Int32)) C dX11_gain_30 (by decide) ?_
      refine g_istore_n (lv' := [(3, .int (0 : Int32)), (2, .int (0 : Int32)), (0, .ref (ad h0)), (1, .int x1)]) C dX11_gain_31 rfl (by decide) rfl ?_
      have L32_u15 : ∀ (n32 : Nat) (I_5 : KI) (x2_5 : Int32) (x3_5 : Int32), wp_X11_gain_L32 Q h0 x1 post n32 I_5 x2_5 x3_5 → WF Z N T Q → GG p l e ({ frames := 6, cells := 0, slots := 0, locals := 141 }) s m [.ref (ad h0), .int x1].toArray below meth c 4 A D D2 0 0 (MQ below (va_Qi (fun (r : Int32) (u : KS) => post r u.1 ∧ u.2.1 = J ∧ u.2.2 = Q ∧ WF Z N T u.2.2) (Bw D D2 ad N T) A) [.ref (ad h0), .int x1].toArray s 0 0 A) ad N T I_5 J Q 32 [(0, .ref (ad h0)), (1, .int x1), (2, .int x2_5), (3, .int x3_5)] [] := by
        intro n32
        induction n32 with
        | zero => intro I_5 x2_5 x3_5 hw; exact hw.elim
        | succ n32 ih_u15 =>
          intro I_5 x2_5 x3_5 hw hWF
          unfold wp_X11_gain_L32 at hw
          refine g_iload_n C dX11_gain_32 rfl 3 rfl ?_
          refine g_aload_n C dX11_gain_33 rfl 0 rfl ?_
          refine g_getQ C dX11_gain_34 ft_326 z0 (hWF.q z0 0 rfl) ?_
          have zz17 := hWF.r z0 0 rfl
          refine g_iconst (v := (0 : Int32)) C dX11_gain_37 (by decide) ?_
          refine g_iald C dX11_gain_38 zz17 (by decide +kernel) ?_
          refine g_icmp_ge (tgt := 80) C dX11_gain_39 (by decide) (fun c18 => ?_) (fun c18 => ?_)
          · have hw := hw.1 c18
            refine g_iload_n C dX11_gain_80 rfl 2 rfl ?_
            exact g_iret C dX11_gain_81 hr ⟨hw, rfl, rfl, hWF⟩
          · have hw := hw.2 c18
            refine g_iload_n C dX11_gain_42 rfl 2 rfl ?_
            refine g_aload_n C dX11_gain_43 rfl 0 rfl ?_
            refine g_iload_n C dX11_gain_44 rfl 3 rfl ?_
            refine g_aload_n C dX11_gain_45 rfl 0 rfl ?_
            refine g_callVi (As := []) C dX11_gain_46 ft_350 z0 ft_389 ft_390 (met_X11_present l hWF z0 hw) ⟨rfl, rfl, Nat.le_of_ble_eq_true rfl, Nat.le_of_ble_eq_true rfl⟩ ⟨Nat.zero_le _, Nat.zero_le _⟩ rfl rfl (Nat.le_of_ble_eq_true rfl) (fun r19 I19 J19 Q19 hp => ?_)
            obtain ⟨hw, eI, eJ, eQ, hWF⟩ := hp
            have eI : I_5 = I19 := Eq.symm eI
            subst eI
            have eJ : J = J19 := Eq.symm eJ
            subst eJ
            have eQ : Q = Q19 := Eq.symm eQ
            subst eQ
            try dsimp only at hw hWF
            refine g_iload_n C dX11_gain_49 rfl 3 rfl ?_
            refine g_aload_n C dX11_gain_50 rfl 0 rfl ?_
            refine g_getQ C dX11_gain_51 ft_326 z0 (hWF.q z0 0 rfl) ?_
            have zz20 := hWF.r z0 0 rfl
            refine g_iconst (v := (0 : Int32)) C dX11_gain_54 (by decide) ?_
            refine g_iald C dX11_gain_55 zz20 (by decide +kernel) ?_
            refine g_iload_n C dX11_gain_56 rfl 1 rfl ?_
            refine g_iconst (v := (2 : Int32)) C dX11_gain_57 (by decide) ?_
            refine g_icmp_ne (tgt := 65) C dX11_gain_58 (by decide) (fun c21 => ?_) (fun c21 => ?_)
            · have hw := hw.1 c21
              refine g_iconst (v := (0 : Int32)) C dX11_gain_65 (by decide) ?_
              refine g_callSi (As := [.int r19, .int x3_5, .int (I_5 (rq Q h0 0) (0 : Int32).toNatClampNeg), .int (0 : Int32)]) C dX11_gain_66 ft_346 ft_347 (met_X11_linkedBy l hWF  hw) ⟨rfl, rfl, Nat.le_of_ble_eq_true rfl, Nat.le_of_ble_eq_true rfl⟩ ⟨Nat.zero_le _, Nat.zero_le _⟩ rfl rfl (Nat.le_of_ble_eq_true rfl) (fun r22 I22 J22 Q22 hp => ?_)
              obtain ⟨hw, eI, eJ, eQ, hWF⟩ := hp
              have eI : I_5 = I22 := Eq.symm eI
              subst eI
              have eJ : J = J22 := Eq.symm eJ
              subst eJ
              have eQ : Q = Q22 := Eq.symm eQ
              subst eQ
              try dsimp only at hw hWF
              refine g_callVi (As := [.int x3_5, .int r22]) C dX11_gain_69 ft_350 z0 ft_399 ft_400 (met_X11_growth l hWF z0 hw) ⟨rfl, rfl, Nat.le_of_ble_eq_true rfl, Nat.le_of_ble_eq_true rfl⟩ ⟨Nat.zero_le _, Nat.zero_le _⟩ rfl rfl (Nat.le_of_ble_eq_true rfl) (fun r23 I23 J23 Q23 hp => ?_)
              obtain ⟨hw, eJ, eQ, hWF⟩ := hp
              have eJ : J = J23 := Eq.symm eJ
              subst eJ
              have eQ : Q = Q23 := Eq.symm eQ
              subst eQ
              try dsimp only at hw hWF
              refine g_iadd C dX11_gain_72 ?_
              refine g_istore_n (lv' := [(2, .int (x2_5 + r23)), (0, .ref (ad h0)), (1, .int x1), (3, .int x3_5)]) C dX11_gain_73 rfl (by decide) rfl ?_
              refine g_iinc (v := (x3_5 + (1 : Int32))) (lv' := [(3, .int (x3_5 + (1 : Int32))), (2, .int (x2_5 + r23)), (0, .ref (ad h0)), (1, .int x1)]) C dX11_gain_74 (q := 3) rfl rfl (by decide) rfl ?_
              refine g_goto C dX11_gain_77 (tgt := 32) (by decide) ?_
              refine g_sub [2, 3, 1, 0] rfl ?_
              exact ih_u15 I23 (x2_5 + r23) (x3_5 + (1 : Int32)) hw hWF
            · have hw := hw.2 c21
              refine g_iconst (v := (1 : Int32)) C dX11_gain_61 (by decide) ?_
              refine g_goto C dX11_gain_62 (tgt := 66) (by decide) ?_
              refine g_callSi (As := [.int r19, .int x3_5, .int (I_5 (rq Q h0 0) (0 : Int32).toNatClampNeg), .int (1 : Int32)]) C dX11_gain_66 ft_346 ft_347 (met_X11_linkedBy l hWF  hw) ⟨rfl, rfl, Nat.le_of_ble_eq_true rfl, Nat.le_of_ble_eq_true rfl⟩ ⟨Nat.zero_le _, Nat.zero_le _⟩ rfl rfl (Nat.le_of_ble_eq_true rfl) (fun r24 I24 J24 Q24 hp => ?_)
              obtain ⟨hw, eI, eJ, eQ, hWF⟩ := hp
              have eI : I_5 = I24 := Eq.symm eI
              subst eI
              have eJ : J = J24 := Eq.symm eJ
              subst eJ
              have eQ : Q = Q24 := Eq.symm eQ
              subst eQ
              try dsimp only at hw hWF
              refine g_callVi (As := [.int x3_5, .int r24]) C dX11_gain_69 ft_350 z0 ft_399 ft_400 (met_X11_growth l hWF z0 hw) ⟨rfl, rfl, Nat.le_of_ble_eq_true rfl, Nat.le_of_ble_eq_true rfl⟩ ⟨Nat.zero_le _, Nat.zero_le _⟩ rfl rfl (Nat.le_of_ble_eq_true rfl) (fun r25 I25 J25 Q25 hp => ?_)
              obtain ⟨hw, eJ, eQ, hWF⟩ := hp
              have eJ : J = J25 := Eq.symm eJ
              subst eJ
              have eQ : Q = Q25 := Eq.symm eQ
              subst eQ
              try dsimp only at hw hWF
              refine g_iadd C dX11_gain_72 ?_
              refine g_istore_n (lv' := [(2, .int (x2_5 + r25)), (0, .ref (ad h0)), (1, .int x1), (3, .int x3_5)]) C dX11_gain_73 rfl (by decide) rfl ?_
              refine g_iinc (v := (x3_5 + (1 : Int32))) (lv' := [(3, .int (x3_5 + (1 : Int32))), (2, .int (x2_5 + r25)), (0, .ref (ad h0)), (1, .int x1)]) C dX11_gain_74 (q := 3) rfl rfl (by decide) rfl ?_
              refine g_goto C dX11_gain_77 (tgt := 32) (by decide) ?_
              refine g_sub [2, 3, 1, 0] rfl ?_
              exact ih_u15 I25 (x2_5 + r25) (x3_5 + (1 : Int32)) hw hWF
      obtain ⟨n_u15, hw⟩ := hw
      refine g_sub [2, 3, 1, 0] rfl ?_
      exact L32_u15 n_u15 I3 (0 : Int32) (0 : Int32) hw hWF
    · have hw := hw.2 c4
      refine g_aload_n C dX11_gain_23 rfl 0 rfl ?_
      refine g_callVi (As := []) C dX11_gain_24 ft_350 z0 ft_412 ft_413 (met_X11_worst l hWF z0 hw) ⟨rfl, rfl, Nat.le_of_ble_eq_true rfl, Nat.le_of_ble_eq_true rfl⟩ ⟨Nat.zero_le _, Nat.zero_le _⟩ rfl rfl (Nat.le_of_ble_eq_true rfl) (fun r26 I26 J26 Q26 hp => ?_)
      obtain ⟨hw, eJ, eQ, hWF⟩ := hp
      have eJ : J = J26 := Eq.symm eJ
      subst eJ
      have eQ : Q = Q26 := Eq.symm eQ
      subst eQ
      try dsimp only at hw hWF
      exact g_iret C dX11_gain_27 hr ⟨hw, rfl, rfl, hWF⟩
  · have hw := hw.2 c2
    refine g_iconst (v := (-1 : Int32)) C dX11_gain_12 (by decide) ?_
    exact g_iret C dX11_gain_13 hr ⟨hw, rfl, rfl, hWF⟩
def wp_X11_foreseen_L17 (Qf_4 : KQ) (f0_4 : Nat) (k46 : KI → Int32 → Prop) : Nat → KI → Int32 → Prop
  | 0, _, _ => False
  | n17 + 1, I_4, x1_4 => (((60 : Int32) ≤ x1_4 → k46 I_4 x1_4) ∧ (¬ (60 : Int32) ≤ x1_4 → wp_X11_whole I_4 Qf_4 f0_4 (fun r6 => (((I_4 (rq Qf_4 f0_4 0) (0 : Int32).toNatClampNeg) ≤ r6 → k46 I_4 x1_4) ∧ (¬ (I_4 (rq Qf_4 f0_4 0) (0 : Int32).toNatClampNeg) ≤ r6 → wp_X11_goes I_4 Qf_4 f0_4 (fun I9 => wp_X11_foreseen_L17 Qf_4 f0_4 k46 n17 I9 (x1_4 + (1 : Int32))))))))
def wp_X11_foreseen (I : KI) (Q : KQ) (h0 : Nat) (post : Int32 → KI → Prop) : Prop := wp_X11_copies I (rq Q h0 0) 69 (0 : Int32) (rq Q h0 8) 69 (0 : Int32) (69 : Int32) (fun I3 => (∃ q17, wp_X11_foreseen_L17 Q h0 (fun I_11 x1_11 => wp_X11_whole I_11 Q h0 (fun r12 => ((¬ r12 = (I_11 (rq Q h0 0) (0 : Int32).toNatClampNeg) → wp_X11_copies I_11 (rq Q h0 8) 69 (0 : Int32) (rq Q h0 0) 69 (0 : Int32) (69 : Int32) (fun I17 => post (-4 : Int32) I17)) ∧ (r12 = (I_11 (rq Q h0 0) (0 : Int32).toNatClampNeg) → wp_X11_copies I_11 (rq Q h0 8) 69 (0 : Int32) (rq Q h0 0) 69 (0 : Int32) (69 : Int32) (fun I21 => post x1_11 I21))))) q17 I3 (0 : Int32)))
set_option maxHeartbeats 4000000 in
set_option maxRecDepth 100000 in
theorem met_X11_foreseen {Z : Nat → Prop} {A : Nat → Prop} {D : va_G} {D2 : Nat → ClassId} {ad : Nat → Nat} {N : Nat} {T : Nat → Nat × Nat} (l : Launch) {I : KI} {J : KJ} {Q : KQ} {h0 : Nat} {post : Int32 → KI → Prop} (hWF : WF Z N T Q) (z0 : OKr Z N T h0 (11, 0)) (hw : wp_X11_foreseen I Q h0 post) : Met l yX11_foreseen (.code yX11_foreseen cX11_foreseen 3 (some .int) :: BIG) ({ frames := 7, cells := 0, slots := 0, locals := 163 }) (Pr D D2 A ad N T I J Q [.ref (ad h0)]) (va_Qi (fun (r : Int32) (u : KS) => post r u.1 ∧ u.2.1 = J ∧ u.2.2 = Q ∧ WF Z N T u.2.2) (Bw D D2 ad N T) A) 0 0 A := by
  refine Met_GG (lv0 := [(0, .ref (ad h0))]) (by decide +kernel) [.ref (ad h0)] (Nat.le_of_ble_eq_true rfl) rfl ?_
  intro p e s m below meth c C hr
  have C : CX p s m [.ref (ad h0)].toArray meth c cX11_foreseen 3 RX11 A D D2 := C
  unfold wp_X11_foreseen at hw
  refine g_aload_n C dX11_foreseen_0 rfl 0 rfl ?_
  refine g_getQ C dX11_foreseen_1 ft_326 z0 (hWF.q z0 0 rfl) ?_
  have zz1 := hWF.r z0 0 rfl
  refine g_iconst (v := (0 : Int32)) C dX11_foreseen_4 (by decide) ?_
  refine g_aload_n C dX11_foreseen_5 rfl 0 rfl ?_
  refine g_getQ C dX11_foreseen_6 ft_414 z0 (hWF.q z0 8 rfl) ?_
  have zz2 := hWF.r z0 8 rfl
  refine g_iconst (v := (0 : Int32)) C dX11_foreseen_9 (by decide) ?_
  refine g_bipush (v := (69 : Int32)) C dX11_foreseen_10 (by decide) ?_
  refine g_callSv (As := [.ref (ad (rq Q h0 0)), .int (0 : Int32), .ref (ad (rq Q h0 8)), .int (0 : Int32), .int (69 : Int32)]) C dX11_foreseen_12 ft_335 ft_336 (met_X11_copies l hWF zz1 zz2 hw) ⟨rfl, rfl, Nat.le_of_ble_eq_true rfl, Nat.le_of_ble_eq_true rfl⟩ ⟨Nat.zero_le _, Nat.zero_le _⟩ rfl rfl (Nat.le_of_ble_eq_true rfl) (fun I3 J3 Q3 hp => ?_)
  obtain ⟨hw, eJ, eQ, hWF⟩ := hp
  have eJ : J = J3 := Eq.symm eJ
  subst eJ
  have eQ : Q = Q3 := Eq.symm eQ
  subst eQ
  try dsimp only at hw hWF
  refine g_iconst (v := (0 : Int32)) C dX11_foreseen_15 (by decide) ?_
  refine g_istore_n (lv' := [(1, .int (0 : Int32)), (0, .ref (ad h0))]) C dX11_foreseen_16 rfl (by decide) rfl ?_
  have K46_u10 : ∀ (I_11 : KI) (x1_11 : Int32), (wp_X11_whole I_11 Q h0 (fun r12 => ((¬ r12 = (I_11 (rq Q h0 0) (0 : Int32).toNatClampNeg) → wp_X11_copies I_11 (rq Q h0 8) 69 (0 : Int32) (rq Q h0 0) 69 (0 : Int32) (69 : Int32) (fun I17 => post (-4 : Int32) I17)) ∧ (r12 = (I_11 (rq Q h0 0) (0 : Int32).toNatClampNeg) → wp_X11_copies I_11 (rq Q h0 8) 69 (0 : Int32) (rq Q h0 0) 69 (0 : Int32) (69 : Int32) (fun I21 => post x1_11 I21))))) → WF Z N T Q → GG p l e ({ frames := 7, cells := 0, slots := 0, locals := 163 }) s m [.ref (ad h0)].toArray below meth c 3 A D D2 0 0 (MQ below (va_Qi (fun (r : Int32) (u : KS) => post r u.1 ∧ u.2.1 = J ∧ u.2.2 = Q ∧ WF Z N T u.2.2) (Bw D D2 ad N T) A) [.ref (ad h0)].toArray s 0 0 A) ad N T I_11 J Q 46 [(0, .ref (ad h0)), (1, .int x1_11)] [] := by
    intro I_11 x1_11 hw hWF
    refine g_aload_n C dX11_foreseen_46 rfl 0 rfl ?_
    refine g_callVi (As := []) C dX11_foreseen_47 ft_350 z0 ft_403 ft_404 (met_X11_whole l hWF z0 hw) ⟨rfl, rfl, Nat.le_of_ble_eq_true rfl, Nat.le_of_ble_eq_true rfl⟩ ⟨Nat.zero_le _, Nat.zero_le _⟩ rfl rfl (Nat.le_of_ble_eq_true rfl) (fun r12 I12 J12 Q12 hp => ?_)
    obtain ⟨hw, eI, eJ, eQ, hWF⟩ := hp
    have eI : I_11 = I12 := Eq.symm eI
    subst eI
    have eJ : J = J12 := Eq.symm eJ
    subst eJ
    have eQ : Q = Q12 := Eq.symm eQ
    subst eQ
    try dsimp only at hw hWF
    refine g_aload_n C dX11_foreseen_50 rfl 0 rfl ?_
    refine g_getQ C dX11_foreseen_51 ft_326 z0 (hWF.q z0 0 rfl) ?_
    have zz13 := hWF.r z0 0 rfl
    refine g_iconst (v := (0 : Int32)) C dX11_foreseen_54 (by decide) ?_
    refine g_iald C dX11_foreseen_55 zz13 (by decide +kernel) ?_
    refine g_icmp_ne (tgt := 63) C dX11_foreseen_56 (by decide) (fun c14 => ?_) (fun c14 => ?_)
    · have hw := hw.1 c14
      refine g_iconst (v := (0 : Int32)) C dX11_foreseen_63 (by decide) ?_
      refine g_istore_n (lv' := [(2, .int (0 : Int32)), (0, .ref (ad h0)), (1, .int x1_11)]) C dX11_foreseen_64 rfl (by decide) rfl ?_
      refine g_aload_n C dX11_foreseen_65 rfl 1 rfl ?_
      refine g_getQ C dX11_foreseen_66 ft_414 z0 (hWF.q z0 8 rfl) ?_
      have zz15 := hWF.r z0 8 rfl
      refine g_iconst (v := (0 : Int32)) C dX11_foreseen_69 (by decide) ?_
      refine g_aload_n C dX11_foreseen_70 rfl 1 rfl ?_
      refine g_getQ C dX11_foreseen_71 ft_326 z0 (hWF.q z0 0 rfl) ?_
      have zz16 := hWF.r z0 0 rfl
      refine g_iconst (v := (0 : Int32)) C dX11_foreseen_74 (by decide) ?_
      refine g_bipush (v := (69 : Int32)) C dX11_foreseen_75 (by decide) ?_
      refine g_callSv (As := [.ref (ad (rq Q h0 8)), .int (0 : Int32), .ref (ad (rq Q h0 0)), .int (0 : Int32), .int (69 : Int32)]) C dX11_foreseen_77 ft_335 ft_336 (met_X11_copies l hWF zz15 zz16 hw) ⟨rfl, rfl, Nat.le_of_ble_eq_true rfl, Nat.le_of_ble_eq_true rfl⟩ ⟨Nat.zero_le _, Nat.zero_le _⟩ rfl rfl (Nat.le_of_ble_eq_true rfl) (fun I17 J17 Q17 hp => ?_)
      obtain ⟨hw, eJ, eQ, hWF⟩ := hp
      have eJ : J = J17 := Eq.symm eJ
      subst eJ
      have eQ : Q = Q17 := Eq.symm eQ
      subst eQ
      try dsimp only at hw hWF
      refine g_iload_n C dX11_foreseen_80 rfl 0 rfl ?_
      refine g_if_eq (tgt := 88) C dX11_foreseen_81 (by decide) (fun _ => ?_) (fun c18 => absurd c18 (by decide))
      refine g_bipush (v := (-4 : Int32)) C dX11_foreseen_88 (by decide) ?_
      exact g_iret C dX11_foreseen_90 hr ⟨hw, rfl, rfl, hWF⟩
    · have hw := hw.2 c14
      refine g_iconst (v := (1 : Int32)) C dX11_foreseen_59 (by decide) ?_
      refine g_goto C dX11_foreseen_60 (tgt := 64) (by decide) ?_
      refine g_istore_n (lv' := [(2, .int (1 : Int32)), (0, .ref (ad h0)), (1, .int x1_11)]) C dX11_foreseen_64 rfl (by decide) rfl ?_
      refine g_aload_n C dX11_foreseen_65 rfl 1 rfl ?_
      refine g_getQ C dX11_foreseen_66 ft_414 z0 (hWF.q z0 8 rfl) ?_
      have zz19 := hWF.r z0 8 rfl
      refine g_iconst (v := (0 : Int32)) C dX11_foreseen_69 (by decide) ?_
      refine g_aload_n C dX11_foreseen_70 rfl 1 rfl ?_
      refine g_getQ C dX11_foreseen_71 ft_326 z0 (hWF.q z0 0 rfl) ?_
      have zz20 := hWF.r z0 0 rfl
      refine g_iconst (v := (0 : Int32)) C dX11_foreseen_74 (by decide) ?_
      refine g_bipush (v := (69 : Int32)) C dX11_foreseen_75 (by decide) ?_
      refine g_callSv (As := [.ref (ad (rq Q h0 8)), .int (0 : Int32), .ref (ad (rq Q h0 0)), .int (0 : Int32), .int (69 : Int32)]) C dX11_foreseen_77 ft_335 ft_336 (met_X11_copies l hWF zz19 zz20 hw) ⟨rfl, rfl, Nat.le_of_ble_eq_true rfl, Nat.le_of_ble_eq_true rfl⟩ ⟨Nat.zero_le _, Nat.zero_le _⟩ rfl rfl (Nat.le_of_ble_eq_true rfl) (fun I21 J21 Q21 hp => ?_)
      obtain ⟨hw, eJ, eQ, hWF⟩ := hp
      have eJ : J = J21 := Eq.symm eJ
      subst eJ
      have eQ : Q = Q21 := Eq.symm eQ
      subst eQ
      try dsimp only at hw hWF
      refine g_iload_n C dX11_foreseen_80 rfl 0 rfl ?_
      refine g_if_eq (tgt := 88) C dX11_foreseen_81 (by decide) (fun c22 => absurd c22 (by decide)) (fun _ => ?_)
      refine g_iload_n C dX11_foreseen_84 rfl 2 rfl ?_
      refine g_goto C dX11_foreseen_85 (tgt := 90) (by decide) ?_
      exact g_iret C dX11_foreseen_90 hr ⟨hw, rfl, rfl, hWF⟩
  have L17_u10 : ∀ (n17 : Nat) (I_4 : KI) (x1_4 : Int32), wp_X11_foreseen_L17 Q h0 (fun I_11 x1_11 => wp_X11_whole I_11 Q h0 (fun r12 => ((¬ r12 = (I_11 (rq Q h0 0) (0 : Int32).toNatClampNeg) → wp_X11_copies I_11 (rq Q h0 8) 69 (0 : Int32) (rq Q h0 0) 69 (0 : Int32) (69 : Int32) (fun I17 => post (-4 : Int32) I17)) ∧ (r12 = (I_11 (rq Q h0 0) (0 : Int32).toNatClampNeg) → wp_X11_copies I_11 (rq Q h0 8) 69 (0 : Int32) (rq Q h0 0) 69 (0 : Int32) (69 : Int32) (fun I21 => post x1_11 I21))))) n17 I_4 x1_4 → WF Z N T Q → GG p l e ({ frames := 7, cells := 0, slots := 0, locals := 163 }) s m [.ref (ad h0)].toArray below meth c 3 A D D2 0 0 (MQ below (va_Qi (fun (r : Int32) (u : KS) => post r u.1 ∧ u.2.1 = J ∧ u.2.2 = Q ∧ WF Z N T u.2.2) (Bw D D2 ad N T) A) [.ref (ad h0)].toArray s 0 0 A) ad N T I_4 J Q 17 [(0, .ref (ad h0)), (1, .int x1_4)] [] := by
    intro n17
    induction n17 with
    | zero => intro I_4 x1_4 hw; exact hw.elim
    | succ n17 ih_u10 =>
      intro I_4 x1_4 hw hWF
      unfold wp_X11_foreseen_L17 at hw
      refine g_iload_n C dX11_foreseen_17 rfl 1 rfl ?_
      refine g_bipush (v := (60 : Int32)) C dX11_foreseen_18 (by decide) ?_
      refine g_icmp_ge (tgt := 46) C dX11_foreseen_20 (by decide) (fun c24 => ?_) (fun c24 => ?_)
      · have hw := hw.1 c24
        exact K46_u10 I_4 x1_4 hw hWF
      · have hw := hw.2 c24
        refine g_aload_n C dX11_foreseen_23 rfl 0 rfl ?_
        refine g_callVi (As := []) C dX11_foreseen_24 ft_350 z0 ft_403 ft_404 (met_X11_whole l hWF z0 hw) ⟨rfl, rfl, Nat.le_of_ble_eq_true rfl, Nat.le_of_ble_eq_true rfl⟩ ⟨Nat.zero_le _, Nat.zero_le _⟩ rfl rfl (Nat.le_of_ble_eq_true rfl) (fun r25 I25 J25 Q25 hp => ?_)
        obtain ⟨hw, eI, eJ, eQ, hWF⟩ := hp
        have eI : I_4 = I25 := Eq.symm eI
        subst eI
        have eJ : J = J25 := Eq.symm eJ
        subst eJ
        have eQ : Q = Q25 := Eq.symm eQ
        subst eQ
        try dsimp only at hw hWF
        refine g_aload_n C dX11_foreseen_27 rfl 0 rfl ?_
        refine g_getQ C dX11_foreseen_28 ft_326 z0 (hWF.q z0 0 rfl) ?_
        have zz26 := hWF.r z0 0 rfl
        refine g_iconst (v := (0 : Int32)) C dX11_foreseen_31 (by decide) ?_
        refine g_iald C dX11_foreseen_32 zz26 (by decide +kernel) ?_
        refine g_icmp_ge (tgt := 46) C dX11_foreseen_33 (by decide) (fun c27 => ?_) (fun c27 => ?_)
        · have hw := hw.1 c27
          exact K46_u10 I_4 x1_4 hw hWF
        · have hw := hw.2 c27
          refine g_aload_n C dX11_foreseen_36 rfl 0 rfl ?_
          refine g_callVv (As := []) C dX11_foreseen_37 ft_350 z0 ft_406 ft_407 (met_X11_goes l hWF z0 hw) ⟨rfl, rfl, Nat.le_of_ble_eq_true rfl, Nat.le_of_ble_eq_true rfl⟩ ⟨Nat.zero_le _, Nat.zero_le _⟩ rfl rfl (Nat.le_of_ble_eq_true rfl) (fun I28 J28 Q28 hp => ?_)
          obtain ⟨hw, eJ, eQ, hWF⟩ := hp
          have eJ : J = J28 := Eq.symm eJ
          subst eJ
          have eQ : Q = Q28 := Eq.symm eQ
          subst eQ
          try dsimp only at hw hWF
          refine g_iinc (v := (x1_4 + (1 : Int32))) (lv' := [(1, .int (x1_4 + (1 : Int32))), (0, .ref (ad h0))]) C dX11_foreseen_40 (q := 1) rfl rfl (by decide) rfl ?_
          refine g_goto C dX11_foreseen_43 (tgt := 17) (by decide) ?_
          refine g_sub [1, 0] rfl ?_
          exact ih_u10 I28 (x1_4 + (1 : Int32)) hw hWF
  obtain ⟨n_u10, hw⟩ := hw
  refine g_sub [1, 0] rfl ?_
  exact L17_u10 n_u10 I3 (0 : Int32) hw hWF
def wp_X11_areAlike_L49 (If_8 : KI) (Qf_8 : KQ) (f0_8 : Nat) (f1_8 : Int32) (f2_8 : Int32) (f3_8 : Int32) (f4_8 : Int32) (f6_8 : Int32) (k144 : Int32 → Int32 → Prop) : Nat → Int32 → Int32 → Int32 → Prop
  | 0, _, _, _ => False
  | n49 + 1, x7_8, x8_8, x9_8 => ((f4_8 ≤ x9_8 → k144 x7_8 x8_8) ∧ (¬ f4_8 ≤ x9_8 → (vp_in x9_8 6 ∧ ((fun (k12 : Int32 → Prop) => ((¬ (If_8 (rq Qf_8 f0_8 15) x9_8.toNatClampNeg) = f6_8 → k12 (0 : Int32)) ∧ ((If_8 (rq Qf_8 f0_8 15) x9_8.toNatClampNeg) = f6_8 → ((x9_8 = f1_8 → k12 (0 : Int32)) ∧ (¬ x9_8 = f1_8 → wp_X11_linkOf f1_8 x9_8 (fun r14 => wp_X11_has f3_8 r14 (fun r15 => ((r15 = 0 → k12 (0 : Int32)) ∧ (¬ r15 = 0 → k12 (1 : Int32)))))))))) (fun s0_12 => (vp_in x9_8 6 ∧ ((fun (k19 : Int32 → Prop) => ((¬ (If_8 (rq Qf_8 f0_8 15) x9_8.toNatClampNeg) = f6_8 → k19 (0 : Int32)) ∧ ((If_8 (rq Qf_8 f0_8 15) x9_8.toNatClampNeg) = f6_8 → ((x9_8 = f2_8 → k19 (0 : Int32)) ∧ (¬ x9_8 = f2_8 → wp_X11_linkOf f2_8 x9_8 (fun r21 => wp_X11_has f3_8 r21 (fun r22 => ((r22 = 0 → k19 (0 : Int32)) ∧ (¬ r22 = 0 → k19 (1 : Int32)))))))))) (fun s0_19 => wp_X11_areAlike_L49 If_8 Qf_8 f0_8 f1_8 f2_8 f3_8 f4_8 f6_8 k144 n49 (x7_8 + s0_12) (x8_8 + s0_19) (x9_8 + (1 : Int32))))))))))
def wp_X11_areAlike_L33 (If_6 : KI) (Qf_6 : KQ) (f0_6 : Nat) (f1_6 : Int32) (f2_6 : Int32) (f3_6 : Int32) (f4_6 : Int32) (post : Int32 → Prop) : Nat → Int32 → Int32 → Prop
  | 0, _, _ => False
  | n33 + 1, x5_6, x6_6 => ((f4_6 ≤ x6_6 → ((x5_6 = 0 ∨ x5_6 = 1) ∧ post x5_6)) ∧ (¬ f4_6 ≤ x6_6 → (∃ q49, wp_X11_areAlike_L49 If_6 Qf_6 f0_6 f1_6 f2_6 f3_6 f4_6 x6_6 (fun x7_25 x8_25 => ((fun (k27 : Int32 → Prop) => ((x5_6 = 0 → k27 (0 : Int32)) ∧ (¬ x5_6 = 0 → ((¬ x7_25 = x8_25 → k27 (0 : Int32)) ∧ (x7_25 = x8_25 → k27 (1 : Int32)))))) (fun s0_27 => wp_X11_areAlike_L33 If_6 Qf_6 f0_6 f1_6 f2_6 f3_6 f4_6 post n33 s0_27 (x6_6 + (1 : Int32))))) q49 (0 : Int32) (0 : Int32) (0 : Int32))))
def wp_X11_areAlike (I : KI) (Q : KQ) (h0 : Nat) (x1 : Int32) (x2 : Int32) (x3 : Int32) (post : Int32 → Prop) : Prop := (vp_in x1 6 ∧ (vp_in x2 6 ∧ ((fun (k5 : Int32 → Prop) => ((¬ (I (rq Q h0 15) x1.toNatClampNeg) = (I (rq Q h0 15) x2.toNatClampNeg) → k5 (0 : Int32)) ∧ ((I (rq Q h0 15) x1.toNatClampNeg) = (I (rq Q h0 15) x2.toNatClampNeg) → k5 (1 : Int32)))) (fun s0_5 => (∃ q33, wp_X11_areAlike_L33 I Q h0 x1 x2 x3 (I (rq Q h0 0) (0 : Int32).toNatClampNeg) post q33 s0_5 (0 : Int32))))))
set_option maxHeartbeats 4000000 in
set_option maxRecDepth 100000 in
theorem met_X11_areAlike {Z : Nat → Prop} {A : Nat → Prop} {D : va_G} {D2 : Nat → ClassId} {ad : Nat → Nat} {N : Nat} {T : Nat → Nat × Nat} (l : Launch) {I : KI} {J : KJ} {Q : KQ} {h0 : Nat} {x1 : Int32} {x2 : Int32} {x3 : Int32} {post : Int32 → Prop} (hWF : WF Z N T Q) (z0 : OKr Z N T h0 (11, 0)) (hw : wp_X11_areAlike I Q h0 x1 x2 x3 post) : Met l yX11_areAlike (.code yX11_areAlike cX11_areAlike 10 (some .boolean) :: BIG) ({ frames := 1, cells := 0, slots := 0, locals := 21 }) (Pr D D2 A ad N T I J Q [.ref (ad h0), .int x1, .int x2, .int x3]) (va_Qi (fun (r : Int32) (u : KS) => post r ∧ u.1 = I ∧ u.2.1 = J ∧ u.2.2 = Q ∧ WF Z N T u.2.2) (Bw D D2 ad N T) A) 0 0 A := by
  refine Met_GG (lv0 := [(0, .ref (ad h0)), (1, .int x1), (2, .int x2), (3, .int x3)]) (by decide +kernel) [.ref (ad h0), .int x1, .int x2, .int x3] (Nat.le_of_ble_eq_true rfl) rfl ?_
  intro p e s m below meth c C hr
  have C : CX p s m [.ref (ad h0), .int x1, .int x2, .int x3].toArray meth c cX11_areAlike 10 RX11 A D D2 := C
  unfold wp_X11_areAlike at hw
  refine g_aload_n C dX11_areAlike_0 rfl 0 rfl ?_
  refine g_getQ C dX11_areAlike_1 ft_326 z0 (hWF.q z0 0 rfl) ?_
  have zz1 := hWF.r z0 0 rfl
  refine g_iconst (v := (0 : Int32)) C dX11_areAlike_4 (by decide) ?_
  refine g_iald C dX11_areAlike_5 zz1 (by decide +kernel) ?_
  refine g_istore (lv' := [(4, .int (I (rq Q h0 0) (0 : Int32).toNatClampNeg)), (0, .ref (ad h0)), (1, .int x1), (2, .int x2), (3, .int x3)]) C dX11_areAlike_6 (by decide) rfl ?_
  refine g_aload_n C dX11_areAlike_8 rfl 1 rfl ?_
  refine g_getQ C dX11_areAlike_9 ft_415 z0 (hWF.q z0 15 rfl) ?_
  have zz2 := hWF.r z0 15 rfl
  refine g_iload_n C dX11_areAlike_12 rfl 2 rfl ?_
  refine g_iald C dX11_areAlike_13 zz2 hw.1 ?_
  have hw := hw.2
  refine g_aload_n C dX11_areAlike_14 rfl 1 rfl ?_
  refine g_getQ C dX11_areAlike_15 ft_415 z0 (hWF.q z0 15 rfl) ?_
  have zz3 := hWF.r z0 15 rfl
  refine g_iload_n C dX11_areAlike_18 rfl 3 rfl ?_
  refine g_iald C dX11_areAlike_19 zz3 hw.1 ?_
  have hw := hw.2
  have J5 : ∀ (s0_5 : Int32), ((∃ q33, wp_X11_areAlike_L33 I Q h0 x1 x2 x3 (I (rq Q h0 0) (0 : Int32).toNatClampNeg) post q33 s0_5 (0 : Int32))) → WF Z N T Q → GG p l e ({ frames := 1, cells := 0, slots := 0, locals := 21 }) s m [.ref (ad h0), .int x1, .int x2, .int x3].toArray below meth c 10 A D D2 0 0 (MQ below (va_Qi (fun (r : Int32) (u : KS) => post r ∧ u.1 = I ∧ u.2.1 = J ∧ u.2.2 = Q ∧ WF Z N T u.2.2) (Bw D D2 ad N T) A) [.ref (ad h0), .int x1, .int x2, .int x3].toArray s 0 0 A) ad N T I J Q 28 [(0, .ref (ad h0)), (1, .int x1), (2, .int x2), (3, .int x3), (4, .int (I (rq Q h0 0) (0 : Int32).toNatClampNeg))] [.int s0_5] := by
    intro s0_5 hw hWF
    refine g_istore (lv' := [(5, .int s0_5), (0, .ref (ad h0)), (1, .int x1), (2, .int x2), (3, .int x3), (4, .int (I (rq Q h0 0) (0 : Int32).toNatClampNeg))]) C dX11_areAlike_28 (by decide) rfl ?_
    refine g_iconst (v := (0 : Int32)) C dX11_areAlike_30 (by decide) ?_
    refine g_istore (lv' := [(6, .int (0 : Int32)), (5, .int s0_5), (0, .ref (ad h0)), (1, .int x1), (2, .int x2), (3, .int x3), (4, .int (I (rq Q h0 0) (0 : Int32).toNatClampNeg))]) C dX11_areAlike_31 (by decide) rfl ?_
    have L33_u45 : ∀ (n33 : Nat) (x5_6 : Int32) (x6_6 : Int32), wp_X11_areAlike_L33 I Q h0 x1 x2 x3 (I (rq Q h0 0) (0 : Int32).toNatClampNeg) post n33 x5_6 x6_6 → WF Z N T Q → GG p l e ({ frames := 1, cells := 0, slots := 0, locals := 21 }) s m [.ref (ad h0), .int x1, .int x2, .int x3].toArray below meth c 10 A D D2 0 0 (MQ below (va_Qi (fun (r : Int32) (u : KS) => post r ∧ u.1 = I ∧ u.2.1 = J ∧ u.2.2 = Q ∧ WF Z N T u.2.2) (Bw D D2 ad N T) A) [.ref (ad h0), .int x1, .int x2, .int x3].toArray s 0 0 A) ad N T I J Q 33 [(0, .ref (ad h0)), (1, .int x1), (2, .int x2), (3, .int x3), (4, .int (I (rq Q h0 0) (0 : Int32).toNatClampNeg)), (5, .int x5_6), (6, .int x6_6)] [] := by
      intro n33
      induction n33 with
      | zero => intro x5_6 x6_6 hw; exact hw.elim
      | succ n33 ih_u45 =>
        intro x5_6 x6_6 hw hWF
        unfold wp_X11_areAlike_L33 at hw
        refine g_iload C dX11_areAlike_33 6 rfl ?_
        refine g_iload C dX11_areAlike_35 4 rfl ?_
        refine g_icmp_ge (tgt := 169) C dX11_areAlike_37 (by decide) (fun c47 => ?_) (fun c47 => ?_)
        · have hw := hw.1 c47
          refine g_iload C dX11_areAlike_169 5 rfl ?_
          exact g_zret C dX11_areAlike_171 hr (nar_b hw.1) ⟨hw.2, rfl, rfl, rfl, hWF⟩
        · have hw := hw.2 c47
          refine g_iconst (v := (0 : Int32)) C dX11_areAlike_40 (by decide) ?_
          refine g_istore (lv' := [(7, .int (0 : Int32)), (0, .ref (ad h0)), (1, .int x1), (2, .int x2), (3, .int x3), (4, .int (I (rq Q h0 0) (0 : Int32).toNatClampNeg)), (5, .int x5_6), (6, .int x6_6)]) C dX11_areAlike_41 (by decide) rfl ?_
          refine g_iconst (v := (0 : Int32)) C dX11_areAlike_43 (by decide) ?_
          refine g_istore (lv' := [(8, .int (0 : Int32)), (7, .int (0 : Int32)), (0, .ref (ad h0)), (1, .int x1), (2, .int x2), (3, .int x3), (4, .int (I (rq Q h0 0) (0 : Int32).toNatClampNeg)), (5, .int x5_6), (6, .int x6_6)]) C dX11_areAlike_44 (by decide) rfl ?_
          refine g_iconst (v := (0 : Int32)) C dX11_areAlike_46 (by decide) ?_
          refine g_istore (lv' := [(9, .int (0 : Int32)), (8, .int (0 : Int32)), (7, .int (0 : Int32)), (0, .ref (ad h0)), (1, .int x1), (2, .int x2), (3, .int x3), (4, .int (I (rq Q h0 0) (0 : Int32).toNatClampNeg)), (5, .int x5_6), (6, .int x6_6)]) C dX11_areAlike_47 (by decide) rfl ?_
          have K144_u49 : ∀ (x7_50 : Int32) (x8_50 : Int32), (((fun (k52 : Int32 → Prop) => ((x5_6 = 0 → k52 (0 : Int32)) ∧ (¬ x5_6 = 0 → ((¬ x7_50 = x8_50 → k52 (0 : Int32)) ∧ (x7_50 = x8_50 → k52 (1 : Int32)))))) (fun s0_52 => wp_X11_areAlike_L33 I Q h0 x1 x2 x3 (I (rq Q h0 0) (0 : Int32).toNatClampNeg) post n33 s0_52 (x6_6 + (1 : Int32))))) → WF Z N T Q → GG p l e ({ frames := 1, cells := 0, slots := 0, locals := 21 }) s m [.ref (ad h0), .int x1, .int x2, .int x3].toArray below meth c 10 A D D2 0 0 (MQ below (va_Qi (fun (r : Int32) (u : KS) => post r ∧ u.1 = I ∧ u.2.1 = J ∧ u.2.2 = Q ∧ WF Z N T u.2.2) (Bw D D2 ad N T) A) [.ref (ad h0), .int x1, .int x2, .int x3].toArray s 0 0 A) ad N T I J Q 144 [(0, .ref (ad h0)), (1, .int x1), (2, .int x2), (3, .int x3), (4, .int (I (rq Q h0 0) (0 : Int32).toNatClampNeg)), (5, .int x5_6), (6, .int x6_6), (7, .int x7_50), (8, .int x8_50)] [] := by
            intro x7_50 x8_50 hw hWF
            refine g_iload C dX11_areAlike_144 5 rfl ?_
            have J52 : ∀ (s0_52 : Int32), (wp_X11_areAlike_L33 I Q h0 x1 x2 x3 (I (rq Q h0 0) (0 : Int32).toNatClampNeg) post n33 s0_52 (x6_6 + (1 : Int32))) → WF Z N T Q → GG p l e ({ frames := 1, cells := 0, slots := 0, locals := 21 }) s m [.ref (ad h0), .int x1, .int x2, .int x3].toArray below meth c 10 A D D2 0 0 (MQ below (va_Qi (fun (r : Int32) (u : KS) => post r ∧ u.1 = I ∧ u.2.1 = J ∧ u.2.2 = Q ∧ WF Z N T u.2.2) (Bw D D2 ad N T) A) [.ref (ad h0), .int x1, .int x2, .int x3].toArray s 0 0 A) ad N T I J Q 161 [(0, .ref (ad h0)), (1, .int x1), (2, .int x2), (3, .int x3), (4, .int (I (rq Q h0 0) (0 : Int32).toNatClampNeg)), (6, .int x6_6)] [.int s0_52] := by
              intro s0_52 hw hWF
              refine g_istore (lv' := [(5, .int s0_52), (0, .ref (ad h0)), (1, .int x1), (2, .int x2), (3, .int x3), (4, .int (I (rq Q h0 0) (0 : Int32).toNatClampNeg)), (6, .int x6_6)]) C dX11_areAlike_161 (by decide) rfl ?_
              refine g_iinc (v := (x6_6 + (1 : Int32))) (lv' := [(6, .int (x6_6 + (1 : Int32))), (5, .int s0_52), (0, .ref (ad h0)), (1, .int x1), (2, .int x2), (3, .int x3), (4, .int (I (rq Q h0 0) (0 : Int32).toNatClampNeg))]) C dX11_areAlike_163 (q := 6) rfl rfl (by decide) rfl ?_
              refine g_goto C dX11_areAlike_166 (tgt := 33) (by decide) ?_
              refine g_sub [2, 3, 4, 5, 6, 1, 0] rfl ?_
              exact ih_u45 s0_52 (x6_6 + (1 : Int32)) hw hWF
            refine g_if_eq (tgt := 160) C dX11_areAlike_146 (by decide) (fun c51 => ?_) (fun c51 => ?_)
            · have hw := hw.1 c51
              refine g_iconst (v := (0 : Int32)) C dX11_areAlike_160 (by decide) ?_
              refine g_sub [0, 1, 2, 3, 4, 6] rfl ?_
              exact J52 (0 : Int32) hw hWF
            · have hw := hw.2 c51
              refine g_iload C dX11_areAlike_149 7 rfl ?_
              refine g_iload C dX11_areAlike_151 8 rfl ?_
              refine g_icmp_ne (tgt := 160) C dX11_areAlike_153 (by decide) (fun c53 => ?_) (fun c53 => ?_)
              · have hw := hw.1 c53
                refine g_iconst (v := (0 : Int32)) C dX11_areAlike_160 (by decide) ?_
                refine g_sub [0, 1, 2, 3, 4, 6] rfl ?_
                exact J52 (0 : Int32) hw hWF
              · have hw := hw.2 c53
                refine g_iconst (v := (1 : Int32)) C dX11_areAlike_156 (by decide) ?_
                refine g_goto C dX11_areAlike_157 (tgt := 161) (by decide) ?_
                refine g_sub [0, 1, 2, 3, 4, 6] rfl ?_
                exact J52 (1 : Int32) hw hWF
          have L49_u49 : ∀ (n49 : Nat) (x7_8 : Int32) (x8_8 : Int32) (x9_8 : Int32), wp_X11_areAlike_L49 I Q h0 x1 x2 x3 (I (rq Q h0 0) (0 : Int32).toNatClampNeg) x6_6 (fun x7_50 x8_50 => ((fun (k52 : Int32 → Prop) => ((x5_6 = 0 → k52 (0 : Int32)) ∧ (¬ x5_6 = 0 → ((¬ x7_50 = x8_50 → k52 (0 : Int32)) ∧ (x7_50 = x8_50 → k52 (1 : Int32)))))) (fun s0_52 => wp_X11_areAlike_L33 I Q h0 x1 x2 x3 (I (rq Q h0 0) (0 : Int32).toNatClampNeg) post n33 s0_52 (x6_6 + (1 : Int32))))) n49 x7_8 x8_8 x9_8 → WF Z N T Q → GG p l e ({ frames := 1, cells := 0, slots := 0, locals := 21 }) s m [.ref (ad h0), .int x1, .int x2, .int x3].toArray below meth c 10 A D D2 0 0 (MQ below (va_Qi (fun (r : Int32) (u : KS) => post r ∧ u.1 = I ∧ u.2.1 = J ∧ u.2.2 = Q ∧ WF Z N T u.2.2) (Bw D D2 ad N T) A) [.ref (ad h0), .int x1, .int x2, .int x3].toArray s 0 0 A) ad N T I J Q 49 [(0, .ref (ad h0)), (1, .int x1), (2, .int x2), (3, .int x3), (4, .int (I (rq Q h0 0) (0 : Int32).toNatClampNeg)), (5, .int x5_6), (6, .int x6_6), (7, .int x7_8), (8, .int x8_8), (9, .int x9_8)] [] := by
            intro n49
            induction n49 with
            | zero => intro x7_8 x8_8 x9_8 hw; exact hw.elim
            | succ n49 ih_u49 =>
              intro x7_8 x8_8 x9_8 hw hWF
              unfold wp_X11_areAlike_L49 at hw
              refine g_iload C dX11_areAlike_49 9 rfl ?_
              refine g_iload C dX11_areAlike_51 4 rfl ?_
              refine g_icmp_ge (tgt := 144) C dX11_areAlike_53 (by decide) (fun c55 => ?_) (fun c55 => ?_)
              · have hw := hw.1 c55
                refine g_sub [0, 1, 2, 3, 4, 5, 6, 7, 8] rfl ?_
                exact K144_u49 x7_8 x8_8 hw hWF
              · have hw := hw.2 c55
                refine g_iload C dX11_areAlike_56 7 rfl ?_
                refine g_aload_n C dX11_areAlike_58 rfl 0 rfl ?_
                refine g_getQ C dX11_areAlike_59 ft_415 z0 (hWF.q z0 15 rfl) ?_
                have zz56 := hWF.r z0 15 rfl
                refine g_iload C dX11_areAlike_62 9 rfl ?_
                refine g_iald C dX11_areAlike_64 zz56 hw.1 ?_
                have hw := hw.2
                refine g_iload C dX11_areAlike_65 6 rfl ?_
                have J58 : ∀ (s0_58 : Int32), ((vp_in x9_8 6 ∧ ((fun (k65 : Int32 → Prop) => ((¬ (I (rq Q h0 15) x9_8.toNatClampNeg) = x6_6 → k65 (0 : Int32)) ∧ ((I (rq Q h0 15) x9_8.toNatClampNeg) = x6_6 → ((x9_8 = x2 → k65 (0 : Int32)) ∧ (¬ x9_8 = x2 → wp_X11_linkOf x2 x9_8 (fun r67 => wp_X11_has x3 r67 (fun r68 => ((r68 = 0 → k65 (0 : Int32)) ∧ (¬ r68 = 0 → k65 (1 : Int32)))))))))) (fun s0_65 => wp_X11_areAlike_L49 I Q h0 x1 x2 x3 (I (rq Q h0 0) (0 : Int32).toNatClampNeg) x6_6 (fun x7_50 x8_50 => ((fun (k52 : Int32 → Prop) => ((x5_6 = 0 → k52 (0 : Int32)) ∧ (¬ x5_6 = 0 → ((¬ x7_50 = x8_50 → k52 (0 : Int32)) ∧ (x7_50 = x8_50 → k52 (1 : Int32)))))) (fun s0_52 => wp_X11_areAlike_L33 I Q h0 x1 x2 x3 (I (rq Q h0 0) (0 : Int32).toNatClampNeg) post n33 s0_52 (x6_6 + (1 : Int32))))) n49 (x7_8 + s0_58) (x8_8 + s0_65) (x9_8 + (1 : Int32)))))) → WF Z N T Q → GG p l e ({ frames := 1, cells := 0, slots := 0, locals := 21 }) s m [.ref (ad h0), .int x1, .int x2, .int x3].toArray below meth c 10 A D D2 0 0 (MQ below (va_Qi (fun (r : Int32) (u : KS) => post r ∧ u.1 = I ∧ u.2.1 = J ∧ u.2.2 = Q ∧ WF Z N T u.2.2) (Bw D D2 ad N T) A) [.ref (ad h0), .int x1, .int x2, .int x3].toArray s 0 0 A) ad N T I J Q 94 [(0, .ref (ad h0)), (1, .int x1), (2, .int x2), (3, .int x3), (4, .int (I (rq Q h0 0) (0 : Int32).toNatClampNeg)), (5, .int x5_6), (6, .int x6_6), (8, .int x8_8), (9, .int x9_8)] [.int s0_58, .int x7_8] := by
                  intro s0_58 hw hWF
                  refine g_iadd C dX11_areAlike_94 ?_
                  refine g_istore (lv' := [(7, .int (x7_8 + s0_58)), (0, .ref (ad h0)), (1, .int x1), (2, .int x2), (3, .int x3), (4, .int (I (rq Q h0 0) (0 : Int32).toNatClampNeg)), (5, .int x5_6), (6, .int x6_6), (8, .int x8_8), (9, .int x9_8)]) C dX11_areAlike_95 (by decide) rfl ?_
                  refine g_iload C dX11_areAlike_97 8 rfl ?_
                  refine g_aload_n C dX11_areAlike_99 rfl 1 rfl ?_
                  refine g_getQ C dX11_areAlike_100 ft_415 z0 (hWF.q z0 15 rfl) ?_
                  have zz63 := hWF.r z0 15 rfl
                  refine g_iload C dX11_areAlike_103 9 rfl ?_
                  refine g_iald C dX11_areAlike_105 zz63 hw.1 ?_
                  have hw := hw.2
                  refine g_iload C dX11_areAlike_106 7 rfl ?_
                  have J65 : ∀ (s0_65 : Int32), (wp_X11_areAlike_L49 I Q h0 x1 x2 x3 (I (rq Q h0 0) (0 : Int32).toNatClampNeg) x6_6 (fun x7_50 x8_50 => ((fun (k52 : Int32 → Prop) => ((x5_6 = 0 → k52 (0 : Int32)) ∧ (¬ x5_6 = 0 → ((¬ x7_50 = x8_50 → k52 (0 : Int32)) ∧ (x7_50 = x8_50 → k52 (1 : Int32)))))) (fun s0_52 => wp_X11_areAlike_L33 I Q h0 x1 x2 x3 (I (rq Q h0 0) (0 : Int32).toNatClampNeg) post n33 s0_52 (x6_6 + (1 : Int32))))) n49 (x7_8 + s0_58) (x8_8 + s0_65) (x9_8 + (1 : Int32))) → WF Z N T Q → GG p l e ({ frames := 1, cells := 0, slots := 0, locals := 21 }) s m [.ref (ad h0), .int x1, .int x2, .int x3].toArray below meth c 10 A D D2 0 0 (MQ below (va_Qi (fun (r : Int32) (u : KS) => post r ∧ u.1 = I ∧ u.2.1 = J ∧ u.2.2 = Q ∧ WF Z N T u.2.2) (Bw D D2 ad N T) A) [.ref (ad h0), .int x1, .int x2, .int x3].toArray s 0 0 A) ad N T I J Q 135 [(0, .ref (ad h0)), (1, .int x1), (2, .int x2), (3, .int x3), (4, .int (I (rq Q h0 0) (0 : Int32).toNatClampNeg)), (5, .int x5_6), (6, .int x6_6), (7, .int (x7_8 + s0_58)), (9, .int x9_8)] [.int s0_65, .int x8_8] := by
                    intro s0_65 hw hWF
                    refine g_iadd C dX11_areAlike_135 ?_
                    refine g_istore (lv' := [(8, .int (x8_8 + s0_65)), (0, .ref (ad h0)), (1, .int x1), (2, .int x2), (3, .int x3), (4, .int (I (rq Q h0 0) (0 : Int32).toNatClampNeg)), (5, .int x5_6), (6, .int x6_6), (7, .int (x7_8 + s0_58)), (9, .int x9_8)]) C dX11_areAlike_136 (by decide) rfl ?_
                    refine g_iinc (v := (x9_8 + (1 : Int32))) (lv' := [(9, .int (x9_8 + (1 : Int32))), (8, .int (x8_8 + s0_65)), (0, .ref (ad h0)), (1, .int x1), (2, .int x2), (3, .int x3), (4, .int (I (rq Q h0 0) (0 : Int32).toNatClampNeg)), (5, .int x5_6), (6, .int x6_6), (7, .int (x7_8 + s0_58))]) C dX11_areAlike_138 (q := 9) rfl rfl (by decide) rfl ?_
                    refine g_goto C dX11_areAlike_141 (tgt := 49) (by decide) ?_
                    refine g_sub [2, 3, 4, 5, 6, 7, 8, 9, 1, 0] rfl ?_
                    exact ih_u49 (x7_8 + s0_58) (x8_8 + s0_65) (x9_8 + (1 : Int32)) hw hWF
                  refine g_icmp_ne (tgt := 134) C dX11_areAlike_108 (by decide) (fun c64 => ?_) (fun c64 => ?_)
                  · have hw := hw.1 c64
                    refine g_iconst (v := (0 : Int32)) C dX11_areAlike_134 (by decide) ?_
                    refine g_sub [1, 2, 3, 4, 5, 6, 7, 0, 9] rfl ?_
                    exact J65 (0 : Int32) hw hWF
                  · have hw := hw.2 c64
                    refine g_iload C dX11_areAlike_111 9 rfl ?_
                    refine g_iload_n C dX11_areAlike_113 rfl 3 rfl ?_
                    refine g_icmp_eq (tgt := 134) C dX11_areAlike_114 (by decide) (fun c66 => ?_) (fun c66 => ?_)
                    · have hw := hw.1 c66
                      refine g_iconst (v := (0 : Int32)) C dX11_areAlike_134 (by decide) ?_
                      refine g_sub [1, 2, 3, 4, 5, 6, 7, 0, 9] rfl ?_
                      exact J65 (0 : Int32) hw hWF
                    · have hw := hw.2 c66
                      refine g_iload_n C dX11_areAlike_117 rfl 4 rfl ?_
                      refine g_iload_n C dX11_areAlike_118 rfl 3 rfl ?_
                      refine g_iload C dX11_areAlike_119 9 rfl ?_
                      refine g_callSi (As := [.int x2, .int x9_8]) C dX11_areAlike_121 ft_328 ft_329 (met_X11_linkOf l hWF  hw) ⟨rfl, rfl, Nat.le_of_ble_eq_true rfl, Nat.le_of_ble_eq_true rfl⟩ ⟨Nat.zero_le _, Nat.zero_le _⟩ rfl rfl (Nat.le_of_ble_eq_true rfl) (fun r67 I67 J67 Q67 hp => ?_)
                      obtain ⟨hw, eI, eJ, eQ, hWF⟩ := hp
                      have eI : I = I67 := Eq.symm eI
                      subst eI
                      have eJ : J = J67 := Eq.symm eJ
                      subst eJ
                      have eQ : Q = Q67 := Eq.symm eQ
                      subst eQ
                      try dsimp only at hw hWF
                      refine g_callSi (As := [.int x3, .int r67]) C dX11_areAlike_124 ft_344 ft_345 (met_X11_has l hWF  hw) ⟨rfl, rfl, Nat.le_of_ble_eq_true rfl, Nat.le_of_ble_eq_true rfl⟩ ⟨Nat.zero_le _, Nat.zero_le _⟩ rfl rfl (Nat.le_of_ble_eq_true rfl) (fun r68 I68 J68 Q68 hp => ?_)
                      obtain ⟨hw, eI, eJ, eQ, hWF⟩ := hp
                      have eI : I = I68 := Eq.symm eI
                      subst eI
                      have eJ : J = J68 := Eq.symm eJ
                      subst eJ
                      have eQ : Q = Q68 := Eq.symm eQ
                      subst eQ
                      try dsimp only at hw hWF
                      refine g_if_eq (tgt := 134) C dX11_areAlike_127 (by decide) (fun c69 => ?_) (fun c69 => ?_)
                      · have hw := hw.1 c69
                        refine g_iconst (v := (0 : Int32)) C dX11_areAlike_134 (by decide) ?_
                        refine g_sub [1, 2, 3, 4, 5, 6, 7, 0, 9] rfl ?_
                        exact J65 (0 : Int32) hw hWF
                      · have hw := hw.2 c69
                        refine g_iconst (v := (1 : Int32)) C dX11_areAlike_130 (by decide) ?_
                        refine g_goto C dX11_areAlike_131 (tgt := 135) (by decide) ?_
                        refine g_sub [1, 2, 3, 4, 5, 6, 7, 0, 9] rfl ?_
                        exact J65 (1 : Int32) hw hWF
                refine g_icmp_ne (tgt := 93) C dX11_areAlike_67 (by decide) (fun c57 => ?_) (fun c57 => ?_)
                · have hw := hw.1 c57
                  refine g_iconst (v := (0 : Int32)) C dX11_areAlike_93 (by decide) ?_
                  refine g_sub [0, 1, 2, 3, 4, 5, 6, 8, 9] rfl ?_
                  exact J58 (0 : Int32) hw hWF
                · have hw := hw.2 c57
                  refine g_iload C dX11_areAlike_70 9 rfl ?_
                  refine g_iload_n C dX11_areAlike_72 rfl 1 rfl ?_
                  refine g_icmp_eq (tgt := 93) C dX11_areAlike_73 (by decide) (fun c59 => ?_) (fun c59 => ?_)
                  · have hw := hw.1 c59
                    refine g_iconst (v := (0 : Int32)) C dX11_areAlike_93 (by decide) ?_
                    refine g_sub [0, 1, 2, 3, 4, 5, 6, 8, 9] rfl ?_
                    exact J58 (0 : Int32) hw hWF
                  · have hw := hw.2 c59
                    refine g_iload_n C dX11_areAlike_76 rfl 3 rfl ?_
                    refine g_iload_n C dX11_areAlike_77 rfl 1 rfl ?_
                    refine g_iload C dX11_areAlike_78 9 rfl ?_
                    refine g_callSi (As := [.int x1, .int x9_8]) C dX11_areAlike_80 ft_328 ft_329 (met_X11_linkOf l hWF  hw) ⟨rfl, rfl, Nat.le_of_ble_eq_true rfl, Nat.le_of_ble_eq_true rfl⟩ ⟨Nat.zero_le _, Nat.zero_le _⟩ rfl rfl (Nat.le_of_ble_eq_true rfl) (fun r60 I60 J60 Q60 hp => ?_)
                    obtain ⟨hw, eI, eJ, eQ, hWF⟩ := hp
                    have eI : I = I60 := Eq.symm eI
                    subst eI
                    have eJ : J = J60 := Eq.symm eJ
                    subst eJ
                    have eQ : Q = Q60 := Eq.symm eQ
                    subst eQ
                    try dsimp only at hw hWF
                    refine g_callSi (As := [.int x3, .int r60]) C dX11_areAlike_83 ft_344 ft_345 (met_X11_has l hWF  hw) ⟨rfl, rfl, Nat.le_of_ble_eq_true rfl, Nat.le_of_ble_eq_true rfl⟩ ⟨Nat.zero_le _, Nat.zero_le _⟩ rfl rfl (Nat.le_of_ble_eq_true rfl) (fun r61 I61 J61 Q61 hp => ?_)
                    obtain ⟨hw, eI, eJ, eQ, hWF⟩ := hp
                    have eI : I = I61 := Eq.symm eI
                    subst eI
                    have eJ : J = J61 := Eq.symm eJ
                    subst eJ
                    have eQ : Q = Q61 := Eq.symm eQ
                    subst eQ
                    try dsimp only at hw hWF
                    refine g_if_eq (tgt := 93) C dX11_areAlike_86 (by decide) (fun c62 => ?_) (fun c62 => ?_)
                    · have hw := hw.1 c62
                      refine g_iconst (v := (0 : Int32)) C dX11_areAlike_93 (by decide) ?_
                      refine g_sub [0, 1, 2, 3, 4, 5, 6, 8, 9] rfl ?_
                      exact J58 (0 : Int32) hw hWF
                    · have hw := hw.2 c62
                      refine g_iconst (v := (1 : Int32)) C dX11_areAlike_89 (by decide) ?_
                      refine g_goto C dX11_areAlike_90 (tgt := 94) (by decide) ?_
                      refine g_sub [0, 1, 2, 3, 4, 5, 6, 8, 9] rfl ?_
                      exact J58 (1 : Int32) hw hWF
          obtain ⟨n_u49, hw⟩ := hw
          refine g_sub [3, 4, 5, 6, 7, 8, 9, 2, 1, 0] rfl ?_
          exact L49_u49 n_u49 (0 : Int32) (0 : Int32) (0 : Int32) hw hWF
    obtain ⟨n_u45, hw⟩ := hw
    refine g_sub [2, 3, 4, 5, 6, 1, 0] rfl ?_
    exact L33_u45 n_u45 s0_5 (0 : Int32) hw hWF
  refine g_icmp_ne (tgt := 27) C dX11_areAlike_20 (by decide) (fun c4 => ?_) (fun c4 => ?_)
  · have hw := hw.1 c4
    refine g_iconst (v := (0 : Int32)) C dX11_areAlike_27 (by decide) ?_
    refine g_sub [1, 2, 3, 4, 0] rfl ?_
    exact J5 (0 : Int32) hw hWF
  · have hw := hw.2 c4
    refine g_iconst (v := (1 : Int32)) C dX11_areAlike_23 (by decide) ?_
    refine g_goto C dX11_areAlike_24 (tgt := 28) (by decide) ?_
    refine g_sub [1, 2, 3, 4, 0] rfl ?_
    exact J5 (1 : Int32) hw hWF
def wp_X11_laysViews_L9 (Qf_2 : KQ) (f0_2 : Nat) (f2_2 : Int32) (k35 : KI → Prop) : Nat → KI → Int32 → Prop
  | 0, _, _ => False
  | n9 + 1, I_2, x3_2 => ((f2_2 ≤ x3_2 → k35 I_2) ∧ (¬ f2_2 ≤ x3_2 → ((¬ x3_2 = 0 → (vp_in x3_2 6 ∧ wp_X11_laysViews_L9 Qf_2 f0_2 f2_2 k35 n9 (sti I_2 (rq Qf_2 f0_2 15) x3_2.toNatClampNeg (1 : Int32)) (x3_2 + (1 : Int32)))) ∧ (x3_2 = 0 → (vp_in x3_2 6 ∧ wp_X11_laysViews_L9 Qf_2 f0_2 f2_2 k35 n9 (sti I_2 (rq Qf_2 f0_2 15) x3_2.toNatClampNeg (0 : Int32)) (x3_2 + (1 : Int32)))))))
def wp_X11_laysViews_L83 (Qf_15 : KQ) (f0_15 : Nat) (f5_15 : Int32) (f6_15 : Int32) (k137 : KI → Prop) : Nat → KI → Int32 → Prop
  | 0, _, _ => False
  | n83 + 1, I_15, x7_15 => ((f6_15 ≤ x7_15 → k137 I_15) ∧ (¬ f6_15 ≤ x7_15 → (vp_in f6_15 6 ∧ ((0 ≤ (I_15 (rq Qf_15 f0_15 16) f6_15.toNatClampNeg) → k137 I_15) ∧ (¬ 0 ≤ (I_15 (rq Qf_15 f0_15 16) f6_15.toNatClampNeg) → wp_X11_areAlike I_15 Qf_15 f0_15 x7_15 f6_15 f5_15 (fun r20 => ((r20 = 0 → (vp_in f6_15 6 ∧ wp_X11_laysViews_L83 Qf_15 f0_15 f5_15 f6_15 k137 n83 (sti I_15 (rq Qf_15 f0_15 16) f6_15.toNatClampNeg (-1 : Int32)) (x7_15 + (1 : Int32)))) ∧ (¬ r20 = 0 → (vp_in x7_15 6 ∧ (vp_in f6_15 6 ∧ wp_X11_laysViews_L83 Qf_15 f0_15 f5_15 f6_15 k137 n83 (sti I_15 (rq Qf_15 f0_15 16) f6_15.toNatClampNeg (I_15 (rq Qf_15 f0_15 16) x7_15.toNatClampNeg)) (x7_15 + (1 : Int32))))))))))))
def wp_X11_laysViews_L66 (Qf_12 : KQ) (f0_12 : Nat) (f2_12 : Int32) (f5_12 : Int32) (k164 : KI → Int32 → Prop) : Nat → KI → Int32 → Int32 → Prop
  | 0, _, _, _ => False
  | n66 + 1, I_12, x3_12, x6_12 => ((f2_12 ≤ x6_12 → k164 I_12 x3_12) ∧ (¬ f2_12 ≤ x6_12 → (vp_in x6_12 6 ∧ (∃ q83, wp_X11_laysViews_L83 Qf_12 f0_12 f5_12 x6_12 (fun I_24 => (vp_in x6_12 6 ∧ ((0 ≤ (I_24 (rq Qf_12 f0_12 16) x6_12.toNatClampNeg) → wp_X11_laysViews_L66 Qf_12 f0_12 f2_12 f5_12 k164 n66 I_24 x3_12 (x6_12 + (1 : Int32))) ∧ (¬ 0 ≤ (I_24 (rq Qf_12 f0_12 16) x6_12.toNatClampNeg) → (vp_in x6_12 6 ∧ wp_X11_laysViews_L66 Qf_12 f0_12 f2_12 f5_12 k164 n66 (sti I_24 (rq Qf_12 f0_12 16) x6_12.toNatClampNeg x3_12) (x3_12 + (1 : Int32)) (x6_12 + (1 : Int32))))))) q83 (sti I_12 (rq Qf_12 f0_12 16) x6_12.toNatClampNeg (-1 : Int32)) (0 : Int32)))))
def wp_X11_laysViews_L40 (Qf_8 : KQ) (f0_8 : Nat) (f1_8 : Int32) (f2_8 : Int32) (post : Int32 → KI → Prop) : Nat → KI → Int32 → Int32 → Prop
  | 0, _, _, _ => False
  | n40 + 1, I_8, x3_8, x4_8 => ((f1_8 ≤ x4_8 → post x3_8 I_8) ∧ (¬ f1_8 ≤ x4_8 → wp_X11_linksOf I_8 Qf_8 f0_8 ((I_8 (rq Qf_8 f0_8 0) (4 : Int32).toNatClampNeg) + x4_8) (fun r11 => (∃ q66, wp_X11_laysViews_L66 Qf_8 f0_8 f2_8 r11 (fun I_37 x3_37 => wp_X11_copies I_37 (rq Qf_8 f0_8 16) 6 (0 : Int32) (rq Qf_8 f0_8 15) 6 (0 : Int32) f2_8 (fun I40 => wp_X11_laysViews_L40 Qf_8 f0_8 f1_8 f2_8 post n40 I40 x3_37 (x4_8 + (1 : Int32)))) q66 I_8 (0 : Int32) (0 : Int32)))))
def wp_X11_laysViews (I : KI) (Q : KQ) (h0 : Nat) (x1 : Int32) (post : Int32 → KI → Prop) : Prop := (∃ q9, wp_X11_laysViews_L9 Q h0 (I (rq Q h0 0) (0 : Int32).toNatClampNeg) (fun I_7 => (∃ q40, wp_X11_laysViews_L40 Q h0 x1 (I (rq Q h0 0) (0 : Int32).toNatClampNeg) post q40 I_7 (2 : Int32) (0 : Int32))) q9 I (0 : Int32))
set_option maxHeartbeats 4000000 in
set_option maxRecDepth 100000 in
theorem met_X11_laysViews {Z : Nat → Prop} {A : Nat → Prop} {D : va_G} {D2 : Nat → ClassId} {ad : Nat → Nat} {N : Nat} {T : Nat → Nat × Nat} (l : Launch) {I : KI} {J : KJ} {Q : KQ} {h0 : Nat} {x1 : Int32} {post : Int32 → KI → Prop} (hWF : WF Z N T Q) (z0 : OKr Z N T h0 (11, 0)) (hw : wp_X11_laysViews I Q h0 x1 post) : Met l yX11_laysViews (.code yX11_laysViews cX11_laysViews 8 (some .int) :: BIG) ({ frames := 2, cells := 0, slots := 0, locals := 50 }) (Pr D D2 A ad N T I J Q [.ref (ad h0), .int x1]) (va_Qi (fun (r : Int32) (u : KS) => post r u.1 ∧ u.2.1 = J ∧ u.2.2 = Q ∧ WF Z N T u.2.2) (Bw D D2 ad N T) A) 0 0 A := by
  refine Met_GG (lv0 := [(0, .ref (ad h0)), (1, .int x1)]) (by decide +kernel) [.ref (ad h0), .int x1] (Nat.le_of_ble_eq_true rfl) rfl ?_
  intro p e s m below meth c C hr
  have C : CX p s m [.ref (ad h0), .int x1].toArray meth c cX11_laysViews 8 RX11 A D D2 := C
  unfold wp_X11_laysViews at hw
  refine g_aload_n C dX11_laysViews_0 rfl 0 rfl ?_
  refine g_getQ C dX11_laysViews_1 ft_326 z0 (hWF.q z0 0 rfl) ?_
  have zz1 := hWF.r z0 0 rfl
  refine g_iconst (v := (0 : Int32)) C dX11_laysViews_4 (by decide) ?_
  refine g_iald C dX11_laysViews_5 zz1 (by decide +kernel) ?_
  refine g_istore_n (lv' := [(2, .int (I (rq Q h0 0) (0 : Int32).toNatClampNeg)), (0, .ref (ad h0)), (1, .int x1)]) C dX11_laysViews_6 rfl (by decide) rfl ?_
  refine g_iconst (v := (0 : Int32)) C dX11_laysViews_7 (by decide) ?_
  refine g_istore_n (lv' := [(3, .int (0 : Int32)), (2, .int (I (rq Q h0 0) (0 : Int32).toNatClampNeg)), (0, .ref (ad h0)), (1, .int x1)]) C dX11_laysViews_8 rfl (by decide) rfl ?_
  have K35_u6 : ∀ (I_7 : KI), ((∃ q40, wp_X11_laysViews_L40 Q h0 x1 (I (rq Q h0 0) (0 : Int32).toNatClampNeg) post q40 I_7 (2 : Int32) (0 : Int32))) → WF Z N T Q → GG p l e ({ frames := 2, cells := 0, slots := 0, locals := 50 }) s m [.ref (ad h0), .int x1].toArray below meth c 8 A D D2 0 0 (MQ below (va_Qi (fun (r : Int32) (u : KS) => post r u.1 ∧ u.2.1 = J ∧ u.2.2 = Q ∧ WF Z N T u.2.2) (Bw D D2 ad N T) A) [.ref (ad h0), .int x1].toArray s 0 0 A) ad N T I_7 J Q 35 [(0, .ref (ad h0)), (1, .int x1), (2, .int (I (rq Q h0 0) (0 : Int32).toNatClampNeg))] [] := by
    intro I_7 hw hWF
    refine g_iconst (v := (2 : Int32)) C dX11_laysViews_35 (by decide) ?_
    refine g_istore_n (lv' := [(3, .int (2 : Int32)), (0, .ref (ad h0)), (1, .int x1), (2, .int (I (rq Q h0 0) (0 : Int32).toNatClampNeg))]) C dX11_laysViews_36 rfl (by decide) rfl ?_
    refine g_iconst (v := (0 : Int32)) C dX11_laysViews_37 (by decide) ?_
    refine g_istore (lv' := [(4, .int (0 : Int32)), (3, .int (2 : Int32)), (0, .ref (ad h0)), (1, .int x1), (2, .int (I (rq Q h0 0) (0 : Int32).toNatClampNeg))]) C dX11_laysViews_38 (by decide) rfl ?_
    have L40_u58 : ∀ (n40 : Nat) (I_8 : KI) (x3_8 : Int32) (x4_8 : Int32), wp_X11_laysViews_L40 Q h0 x1 (I (rq Q h0 0) (0 : Int32).toNatClampNeg) post n40 I_8 x3_8 x4_8 → WF Z N T Q → GG p l e ({ frames := 2, cells := 0, slots := 0, locals := 50 }) s m [.ref (ad h0), .int x1].toArray below meth c 8 A D D2 0 0 (MQ below (va_Qi (fun (r : Int32) (u : KS) => post r u.1 ∧ u.2.1 = J ∧ u.2.2 = Q ∧ WF Z N T u.2.2) (Bw D D2 ad N T) A) [.ref (ad h0), .int x1].toArray s 0 0 A) ad N T I_8 J Q 40 [(0, .ref (ad h0)), (1, .int x1), (2, .int (I (rq Q h0 0) (0 : Int32).toNatClampNeg)), (3, .int x3_8), (4, .int x4_8)] [] := by
      intro n40
      induction n40 with
      | zero => intro I_8 x3_8 x4_8 hw; exact hw.elim
      | succ n40 ih_u58 =>
        intro I_8 x3_8 x4_8 hw hWF
        unfold wp_X11_laysViews_L40 at hw
        refine g_iload C dX11_laysViews_40 4 rfl ?_
        refine g_iload_n C dX11_laysViews_42 rfl 1 rfl ?_
        refine g_icmp_ge (tgt := 184) C dX11_laysViews_43 (by decide) (fun c60 => ?_) (fun c60 => ?_)
        · have hw := hw.1 c60
          refine g_iload_n C dX11_laysViews_184 rfl 3 rfl ?_
          exact g_iret C dX11_laysViews_185 hr ⟨hw, rfl, rfl, hWF⟩
        · have hw := hw.2 c60
          refine g_aload_n C dX11_laysViews_46 rfl 0 rfl ?_
          refine g_aload_n C dX11_laysViews_47 rfl 0 rfl ?_
          refine g_getQ C dX11_laysViews_48 ft_326 z0 (hWF.q z0 0 rfl) ?_
          have zz61 := hWF.r z0 0 rfl
          refine g_iconst (v := (4 : Int32)) C dX11_laysViews_51 (by decide) ?_
          refine g_iald C dX11_laysViews_52 zz61 (by decide +kernel) ?_
          refine g_iload C dX11_laysViews_53 4 rfl ?_
          refine g_iadd C dX11_laysViews_55 ?_
          refine g_callVi (As := [.int ((I_8 (rq Q h0 0) (4 : Int32).toNatClampNeg) + x4_8)]) C dX11_laysViews_56 ft_350 z0 ft_348 ft_349 (met_X11_linksOf l hWF z0 hw) ⟨rfl, rfl, Nat.le_of_ble_eq_true rfl, Nat.le_of_ble_eq_true rfl⟩ ⟨Nat.zero_le _, Nat.zero_le _⟩ rfl rfl (Nat.le_of_ble_eq_true rfl) (fun r62 I62 J62 Q62 hp => ?_)
          obtain ⟨hw, eI, eJ, eQ, hWF⟩ := hp
          have eI : I_8 = I62 := Eq.symm eI
          subst eI
          have eJ : J = J62 := Eq.symm eJ
          subst eJ
          have eQ : Q = Q62 := Eq.symm eQ
          subst eQ
          try dsimp only at hw hWF
          refine g_istore (lv' := [(5, .int r62), (0, .ref (ad h0)), (1, .int x1), (2, .int (I (rq Q h0 0) (0 : Int32).toNatClampNeg)), (3, .int x3_8), (4, .int x4_8)]) C dX11_laysViews_59 (by decide) rfl ?_
          refine g_iconst (v := (0 : Int32)) C dX11_laysViews_61 (by decide) ?_
          refine g_istore_n (lv' := [(3, .int (0 : Int32)), (5, .int r62), (0, .ref (ad h0)), (1, .int x1), (2, .int (I (rq Q h0 0) (0 : Int32).toNatClampNeg)), (4, .int x4_8)]) C dX11_laysViews_62 rfl (by decide) rfl ?_
          refine g_iconst (v := (0 : Int32)) C dX11_laysViews_63 (by decide) ?_
          refine g_istore (lv' := [(6, .int (0 : Int32)), (3, .int (0 : Int32)), (5, .int r62), (0, .ref (ad h0)), (1, .int x1), (2, .int (I (rq Q h0 0) (0 : Int32).toNatClampNeg)), (4, .int x4_8)]) C dX11_laysViews_64 (by decide) rfl ?_
          have K164_u64 : ∀ (I_65 : KI) (x3_65 : Int32), (wp_X11_copies I_65 (rq Q h0 16) 6 (0 : Int32) (rq Q h0 15) 6 (0 : Int32) (I (rq Q h0 0) (0 : Int32).toNatClampNeg) (fun I68 => wp_X11_laysViews_L40 Q h0 x1 (I (rq Q h0 0) (0 : Int32).toNatClampNeg) post n40 I68 x3_65 (x4_8 + (1 : Int32)))) → WF Z N T Q → GG p l e ({ frames := 2, cells := 0, slots := 0, locals := 50 }) s m [.ref (ad h0), .int x1].toArray below meth c 8 A D D2 0 0 (MQ below (va_Qi (fun (r : Int32) (u : KS) => post r u.1 ∧ u.2.1 = J ∧ u.2.2 = Q ∧ WF Z N T u.2.2) (Bw D D2 ad N T) A) [.ref (ad h0), .int x1].toArray s 0 0 A) ad N T I_65 J Q 164 [(0, .ref (ad h0)), (1, .int x1), (2, .int (I (rq Q h0 0) (0 : Int32).toNatClampNeg)), (3, .int x3_65), (4, .int x4_8)] [] := by
            intro I_65 x3_65 hw hWF
            refine g_aload_n C dX11_laysViews_164 rfl 0 rfl ?_
            refine g_getQ C dX11_laysViews_165 ft_416 z0 (hWF.q z0 16 rfl) ?_
            have zz66 := hWF.r z0 16 rfl
            refine g_iconst (v := (0 : Int32)) C dX11_laysViews_168 (by decide) ?_
            refine g_aload_n C dX11_laysViews_169 rfl 0 rfl ?_
            refine g_getQ C dX11_laysViews_170 ft_415 z0 (hWF.q z0 15 rfl) ?_
            have zz67 := hWF.r z0 15 rfl
            refine g_iconst (v := (0 : Int32)) C dX11_laysViews_173 (by decide) ?_
            refine g_iload_n C dX11_laysViews_174 rfl 2 rfl ?_
            refine g_callSv (As := [.ref (ad (rq Q h0 16)), .int (0 : Int32), .ref (ad (rq Q h0 15)), .int (0 : Int32), .int (I (rq Q h0 0) (0 : Int32).toNatClampNeg)]) C dX11_laysViews_175 ft_335 ft_336 (met_X11_copies l hWF zz66 zz67 hw) ⟨rfl, rfl, Nat.le_of_ble_eq_true rfl, Nat.le_of_ble_eq_true rfl⟩ ⟨Nat.zero_le _, Nat.zero_le _⟩ rfl rfl (Nat.le_of_ble_eq_true rfl) (fun I68 J68 Q68 hp => ?_)
            obtain ⟨hw, eJ, eQ, hWF⟩ := hp
            have eJ : J = J68 := Eq.symm eJ
            subst eJ
            have eQ : Q = Q68 := Eq.symm eQ
            subst eQ
            try dsimp only at hw hWF
            refine g_iinc (v := (x4_8 + (1 : Int32))) (lv' := [(4, .int (x4_8 + (1 : Int32))), (0, .ref (ad h0)), (1, .int x1), (2, .int (I (rq Q h0 0) (0 : Int32).toNatClampNeg)), (3, .int x3_65)]) C dX11_laysViews_178 (q := 4) rfl rfl (by decide) rfl ?_
            refine g_goto C dX11_laysViews_181 (tgt := 40) (by decide) ?_
            refine g_sub [1, 2, 3, 4, 0] rfl ?_
            exact ih_u58 I68 x3_65 (x4_8 + (1 : Int32)) hw hWF
          have L66_u64 : ∀ (n66 : Nat) (I_12 : KI) (x3_12 : Int32) (x6_12 : Int32), wp_X11_laysViews_L66 Q h0 (I (rq Q h0 0) (0 : Int32).toNatClampNeg) r62 (fun I_65 x3_65 => wp_X11_copies I_65 (rq Q h0 16) 6 (0 : Int32) (rq Q h0 15) 6 (0 : Int32) (I (rq Q h0 0) (0 : Int32).toNatClampNeg) (fun I68 => wp_X11_laysViews_L40 Q h0 x1 (I (rq Q h0 0) (0 : Int32).toNatClampNeg) post n40 I68 x3_65 (x4_8 + (1 : Int32)))) n66 I_12 x3_12 x6_12 → WF Z N T Q → GG p l e ({ frames := 2, cells := 0, slots := 0, locals := 50 }) s m [.ref (ad h0), .int x1].toArray below meth c 8 A D D2 0 0 (MQ below (va_Qi (fun (r : Int32) (u : KS) => post r u.1 ∧ u.2.1 = J ∧ u.2.2 = Q ∧ WF Z N T u.2.2) (Bw D D2 ad N T) A) [.ref (ad h0), .int x1].toArray s 0 0 A) ad N T I_12 J Q 66 [(0, .ref (ad h0)), (1, .int x1), (2, .int (I (rq Q h0 0) (0 : Int32).toNatClampNeg)), (3, .int x3_12), (4, .int x4_8), (5, .int r62), (6, .int x6_12)] [] := by
            intro n66
            induction n66 with
            | zero => intro I_12 x3_12 x6_12 hw; exact hw.elim
            | succ n66 ih_u64 =>
              intro I_12 x3_12 x6_12 hw hWF
              unfold wp_X11_laysViews_L66 at hw
              refine g_iload C dX11_laysViews_66 6 rfl ?_
              refine g_iload_n C dX11_laysViews_68 rfl 2 rfl ?_
              refine g_icmp_ge (tgt := 164) C dX11_laysViews_69 (by decide) (fun c70 => ?_) (fun c70 => ?_)
              · have hw := hw.1 c70
                refine g_sub [0, 1, 2, 3, 4] rfl ?_
                exact K164_u64 I_12 x3_12 hw hWF
              · have hw := hw.2 c70
                refine g_aload_n C dX11_laysViews_72 rfl 0 rfl ?_
                refine g_getQ C dX11_laysViews_73 ft_416 z0 (hWF.q z0 16 rfl) ?_
                have zz71 := hWF.r z0 16 rfl
                refine g_iload C dX11_laysViews_76 6 rfl ?_
                refine g_iconst (v := (-1 : Int32)) C dX11_laysViews_78 (by decide) ?_
                refine g_iast C dX11_laysViews_79 zz71 hw.1 ?_
                have hw := hw.2
                refine g_iconst (v := (0 : Int32)) C dX11_laysViews_80 (by decide) ?_
                refine g_istore (lv' := [(7, .int (0 : Int32)), (0, .ref (ad h0)), (1, .int x1), (2, .int (I (rq Q h0 0) (0 : Int32).toNatClampNeg)), (3, .int x3_12), (4, .int x4_8), (5, .int r62), (6, .int x6_12)]) C dX11_laysViews_81 (by decide) rfl ?_
                have K137_u73 : ∀ (I_74 : KI), ((vp_in x6_12 6 ∧ ((0 ≤ (I_74 (rq Q h0 16) x6_12.toNatClampNeg) → wp_X11_laysViews_L66 Q h0 (I (rq Q h0 0) (0 : Int32).toNatClampNeg) r62 (fun I_65 x3_65 => wp_X11_copies I_65 (rq Q h0 16) 6 (0 : Int32) (rq Q h0 15) 6 (0 : Int32) (I (rq Q h0 0) (0 : Int32).toNatClampNeg) (fun I68 => wp_X11_laysViews_L40 Q h0 x1 (I (rq Q h0 0) (0 : Int32).toNatClampNeg) post n40 I68 x3_65 (x4_8 + (1 : Int32)))) n66 I_74 x3_12 (x6_12 + (1 : Int32))) ∧ (¬ 0 ≤ (I_74 (rq Q h0 16) x6_12.toNatClampNeg) → (vp_in x6_12 6 ∧ wp_X11_laysViews_L66 Q h0 (I (rq Q h0 0) (0 : Int32).toNatClampNeg) r62 (fun I_65 x3_65 => wp_X11_copies I_65 (rq Q h0 16) 6 (0 : Int32) (rq Q h0 15) 6 (0 : Int32) (I (rq Q h0 0) (0 : Int32).toNatClampNeg) (fun I68 => wp_X11_laysViews_L40 Q h0 x1 (I (rq Q h0 0) (0 : Int32).toNatClampNeg) post n40 I68 x3_65 (x4_8 + (1 : Int32)))) n66 (sti I_74 (rq Q h0 16) x6_12.toNatClampNeg x3_12) (x3_12 + (1 : Int32)) (x6_12 + (1 : Int32))))))) → WF Z N T Q → GG p l e ({ frames := 2, cells := 0, slots := 0, locals := 50 }) s m [.ref (ad h0), .int x1].toArray below meth c 8 A D D2 0 0 (MQ below (va_Qi (fun (r : Int32) (u : KS) => post r u.1 ∧ u.2.1 = J ∧ u.2.2 = Q ∧ WF Z N T u.2.2) (Bw D D2 ad N T) A) [.ref (ad h0), .int x1].toArray s 0 0 A) ad N T I_74 J Q 137 [(0, .ref (ad h0)), (1, .int x1), (2, .int (I (rq Q h0 0) (0 : Int32).toNatClampNeg)), (3, .int x3_12), (4, .int x4_8), (5, .int r62), (6, .int x6_12)] [] := by
                  intro I_74 hw hWF
                  refine g_aload_n C dX11_laysViews_137 rfl 0 rfl ?_
                  refine g_getQ C dX11_laysViews_138 ft_416 z0 (hWF.q z0 16 rfl) ?_
                  have zz75 := hWF.r z0 16 rfl
                  refine g_iload C dX11_laysViews_141 6 rfl ?_
                  refine g_iald C dX11_laysViews_143 zz75 hw.1 ?_
                  have hw := hw.2
                  refine g_if_ge (tgt := 158) C dX11_laysViews_144 (by decide) (fun c76 => ?_) (fun c76 => ?_)
                  · have hw := hw.1 c76
                    refine g_iinc (v := (x6_12 + (1 : Int32))) (lv' := [(6, .int (x6_12 + (1 : Int32))), (0, .ref (ad h0)), (1, .int x1), (2, .int (I (rq Q h0 0) (0 : Int32).toNatClampNeg)), (3, .int x3_12), (4, .int x4_8), (5, .int r62)]) C dX11_laysViews_158 (q := 6) rfl rfl (by decide) rfl ?_
                    refine g_goto C dX11_laysViews_161 (tgt := 66) (by decide) ?_
                    refine g_sub [1, 2, 3, 4, 5, 6, 0] rfl ?_
                    exact ih_u64 I_74 x3_12 (x6_12 + (1 : Int32)) hw hWF
                  · have hw := hw.2 c76
                    refine g_aload_n C dX11_laysViews_147 rfl 0 rfl ?_
                    refine g_getQ C dX11_laysViews_148 ft_416 z0 (hWF.q z0 16 rfl) ?_
                    have zz77 := hWF.r z0 16 rfl
                    refine g_iload C dX11_laysViews_151 6 rfl ?_
                    refine g_iload_n C dX11_laysViews_153 rfl 3 rfl ?_
                    refine g_iast C dX11_laysViews_154 zz77 hw.1 ?_
                    have hw := hw.2
                    refine g_iinc (v := (x3_12 + (1 : Int32))) (lv' := [(3, .int (x3_12 + (1 : Int32))), (0, .ref (ad h0)), (1, .int x1), (2, .int (I (rq Q h0 0) (0 : Int32).toNatClampNeg)), (4, .int x4_8), (5, .int r62), (6, .int x6_12)]) C dX11_laysViews_155 (q := 3) rfl rfl (by decide) rfl ?_
                    refine g_iinc (v := (x6_12 + (1 : Int32))) (lv' := [(6, .int (x6_12 + (1 : Int32))), (3, .int (x3_12 + (1 : Int32))), (0, .ref (ad h0)), (1, .int x1), (2, .int (I (rq Q h0 0) (0 : Int32).toNatClampNeg)), (4, .int x4_8), (5, .int r62)]) C dX11_laysViews_158 (q := 6) rfl rfl (by decide) rfl ?_
                    refine g_goto C dX11_laysViews_161 (tgt := 66) (by decide) ?_
                    refine g_sub [2, 3, 4, 1, 5, 6, 0] rfl ?_
                    exact ih_u64 (sti I_74 (rq Q h0 16) x6_12.toNatClampNeg x3_12) (x3_12 + (1 : Int32)) (x6_12 + (1 : Int32)) hw hWF
                have L83_u73 : ∀ (n83 : Nat) (I_15 : KI) (x7_15 : Int32), wp_X11_laysViews_L83 Q h0 r62 x6_12 (fun I_74 => (vp_in x6_12 6 ∧ ((0 ≤ (I_74 (rq Q h0 16) x6_12.toNatClampNeg) → wp_X11_laysViews_L66 Q h0 (I (rq Q h0 0) (0 : Int32).toNatClampNeg) r62 (fun I_65 x3_65 => wp_X11_copies I_65 (rq Q h0 16) 6 (0 : Int32) (rq Q h0 15) 6 (0 : Int32) (I (rq Q h0 0) (0 : Int32).toNatClampNeg) (fun I68 => wp_X11_laysViews_L40 Q h0 x1 (I (rq Q h0 0) (0 : Int32).toNatClampNeg) post n40 I68 x3_65 (x4_8 + (1 : Int32)))) n66 I_74 x3_12 (x6_12 + (1 : Int32))) ∧ (¬ 0 ≤ (I_74 (rq Q h0 16) x6_12.toNatClampNeg) → (vp_in x6_12 6 ∧ wp_X11_laysViews_L66 Q h0 (I (rq Q h0 0) (0 : Int32).toNatClampNeg) r62 (fun I_65 x3_65 => wp_X11_copies I_65 (rq Q h0 16) 6 (0 : Int32) (rq Q h0 15) 6 (0 : Int32) (I (rq Q h0 0) (0 : Int32).toNatClampNeg) (fun I68 => wp_X11_laysViews_L40 Q h0 x1 (I (rq Q h0 0) (0 : Int32).toNatClampNeg) post n40 I68 x3_65 (x4_8 + (1 : Int32)))) n66 (sti I_74 (rq Q h0 16) x6_12.toNatClampNeg x3_12) (x3_12 + (1 : Int32)) (x6_12 + (1 : Int32))))))) n83 I_15 x7_15 → WF Z N T Q → GG p l e ({ frames := 2, cells := 0, slots := 0, locals := 50 }) s m [.ref (ad h0), .int x1].toArray below meth c 8 A D D2 0 0 (MQ below (va_Qi (fun (r : Int32) (u : KS) => post r u.1 ∧ u.2.1 = J ∧ u.2.2 = Q ∧ WF Z N T u.2.2) (Bw D D2 ad N T) A) [.ref (ad h0), .int x1].toArray s 0 0 A) ad N T I_15 J Q 83 [(0, .ref (ad h0)), (1, .int x1), (2, .int (I (rq Q h0 0) (0 : Int32).toNatClampNeg)), (3, .int x3_12), (4, .int x4_8), (5, .int r62), (6, .int x6_12), (7, .int x7_15)] [] := by
                  intro n83
                  induction n83 with
                  | zero => intro I_15 x7_15 hw; exact hw.elim
                  | succ n83 ih_u73 =>
                    intro I_15 x7_15 hw hWF
                    unfold wp_X11_laysViews_L83 at hw
                    refine g_iload C dX11_laysViews_83 7 rfl ?_
                    refine g_iload C dX11_laysViews_85 6 rfl ?_
                    refine g_icmp_ge (tgt := 137) C dX11_laysViews_87 (by decide) (fun c79 => ?_) (fun c79 => ?_)
                    · have hw := hw.1 c79
                      refine g_sub [0, 1, 2, 3, 4, 5, 6] rfl ?_
                      exact K137_u73 I_15 hw hWF
                    · have hw := hw.2 c79
                      refine g_aload_n C dX11_laysViews_90 rfl 0 rfl ?_
                      refine g_getQ C dX11_laysViews_91 ft_416 z0 (hWF.q z0 16 rfl) ?_
                      have zz80 := hWF.r z0 16 rfl
                      refine g_iload C dX11_laysViews_94 6 rfl ?_
                      refine g_iald C dX11_laysViews_96 zz80 hw.1 ?_
                      have hw := hw.2
                      refine g_if_ge (tgt := 137) C dX11_laysViews_97 (by decide) (fun c81 => ?_) (fun c81 => ?_)
                      · have hw := hw.1 c81
                        refine g_sub [0, 1, 2, 3, 4, 5, 6] rfl ?_
                        exact K137_u73 I_15 hw hWF
                      · have hw := hw.2 c81
                        refine g_aload_n C dX11_laysViews_100 rfl 0 rfl ?_
                        refine g_getQ C dX11_laysViews_101 ft_416 z0 (hWF.q z0 16 rfl) ?_
                        have zz82 := hWF.r z0 16 rfl
                        refine g_iload C dX11_laysViews_104 6 rfl ?_
                        refine g_aload_n C dX11_laysViews_106 rfl 0 rfl ?_
                        refine g_iload C dX11_laysViews_107 7 rfl ?_
                        refine g_iload C dX11_laysViews_109 6 rfl ?_
                        refine g_iload C dX11_laysViews_111 5 rfl ?_
                        refine g_callVi (As := [.int x7_15, .int x6_12, .int r62]) C dX11_laysViews_113 ft_350 z0 ft_417 ft_418 (met_X11_areAlike l hWF z0 hw) ⟨rfl, rfl, Nat.le_of_ble_eq_true rfl, Nat.le_of_ble_eq_true rfl⟩ ⟨Nat.zero_le _, Nat.zero_le _⟩ rfl rfl (Nat.le_of_ble_eq_true rfl) (fun r83 I83 J83 Q83 hp => ?_)
                        obtain ⟨hw, eI, eJ, eQ, hWF⟩ := hp
                        have eI : I_15 = I83 := Eq.symm eI
                        subst eI
                        have eJ : J = J83 := Eq.symm eJ
                        subst eJ
                        have eQ : Q = Q83 := Eq.symm eQ
                        subst eQ
                        try dsimp only at hw hWF
                        refine g_if_eq (tgt := 129) C dX11_laysViews_116 (by decide) (fun c84 => ?_) (fun c84 => ?_)
                        · have hw := hw.1 c84
                          refine g_iconst (v := (-1 : Int32)) C dX11_laysViews_129 (by decide) ?_
                          refine g_iast C dX11_laysViews_130 zz82 hw.1 ?_
                          have hw := hw.2
                          refine g_iinc (v := (x7_15 + (1 : Int32))) (lv' := [(7, .int (x7_15 + (1 : Int32))), (0, .ref (ad h0)), (1, .int x1), (2, .int (I (rq Q h0 0) (0 : Int32).toNatClampNeg)), (3, .int x3_12), (4, .int x4_8), (5, .int r62), (6, .int x6_12)]) C dX11_laysViews_131 (q := 7) rfl rfl (by decide) rfl ?_
                          refine g_goto C dX11_laysViews_134 (tgt := 83) (by decide) ?_
                          refine g_sub [1, 2, 3, 4, 5, 6, 7, 0] rfl ?_
                          exact ih_u73 (sti I_15 (rq Q h0 16) x6_12.toNatClampNeg (-1 : Int32)) (x7_15 + (1 : Int32)) hw hWF
                        · have hw := hw.2 c84
                          refine g_aload_n C dX11_laysViews_119 rfl 0 rfl ?_
                          refine g_getQ C dX11_laysViews_120 ft_416 z0 (hWF.q z0 16 rfl) ?_
                          have zz85 := hWF.r z0 16 rfl
                          refine g_iload C dX11_laysViews_123 7 rfl ?_
                          refine g_iald C dX11_laysViews_125 zz85 hw.1 ?_
                          have hw := hw.2
                          refine g_goto C dX11_laysViews_126 (tgt := 130) (by decide) ?_
                          refine g_iast C dX11_laysViews_130 zz82 hw.1 ?_
                          have hw := hw.2
                          refine g_iinc (v := (x7_15 + (1 : Int32))) (lv' := [(7, .int (x7_15 + (1 : Int32))), (0, .ref (ad h0)), (1, .int x1), (2, .int (I (rq Q h0 0) (0 : Int32).toNatClampNeg)), (3, .int x3_12), (4, .int x4_8), (5, .int r62), (6, .int x6_12)]) C dX11_laysViews_131 (q := 7) rfl rfl (by decide) rfl ?_
                          refine g_goto C dX11_laysViews_134 (tgt := 83) (by decide) ?_
                          refine g_sub [1, 2, 3, 4, 5, 6, 7, 0] rfl ?_
                          exact ih_u73 (sti I_15 (rq Q h0 16) x6_12.toNatClampNeg (I_15 (rq Q h0 16) x7_15.toNatClampNeg)) (x7_15 + (1 : Int32)) hw hWF
                obtain ⟨n_u73, hw⟩ := hw
                refine g_sub [1, 2, 3, 4, 5, 6, 7, 0] rfl ?_
                exact L83_u73 n_u73 (sti I_12 (rq Q h0 16) x6_12.toNatClampNeg (-1 : Int32)) (0 : Int32) hw hWF
          obtain ⟨n_u64, hw⟩ := hw
          refine g_sub [3, 4, 5, 1, 6, 2, 0] rfl ?_
          exact L66_u64 n_u64 I_8 (0 : Int32) (0 : Int32) hw hWF
    obtain ⟨n_u58, hw⟩ := hw
    refine g_sub [2, 3, 4, 1, 0] rfl ?_
    exact L40_u58 n_u58 I_7 (2 : Int32) (0 : Int32) hw hWF
  have L9_u6 : ∀ (n9 : Nat) (I_2 : KI) (x3_2 : Int32), wp_X11_laysViews_L9 Q h0 (I (rq Q h0 0) (0 : Int32).toNatClampNeg) (fun I_7 => (∃ q40, wp_X11_laysViews_L40 Q h0 x1 (I (rq Q h0 0) (0 : Int32).toNatClampNeg) post q40 I_7 (2 : Int32) (0 : Int32))) n9 I_2 x3_2 → WF Z N T Q → GG p l e ({ frames := 2, cells := 0, slots := 0, locals := 50 }) s m [.ref (ad h0), .int x1].toArray below meth c 8 A D D2 0 0 (MQ below (va_Qi (fun (r : Int32) (u : KS) => post r u.1 ∧ u.2.1 = J ∧ u.2.2 = Q ∧ WF Z N T u.2.2) (Bw D D2 ad N T) A) [.ref (ad h0), .int x1].toArray s 0 0 A) ad N T I_2 J Q 9 [(0, .ref (ad h0)), (1, .int x1), (2, .int (I (rq Q h0 0) (0 : Int32).toNatClampNeg)), (3, .int x3_2)] [] := by
    intro n9
    induction n9 with
    | zero => intro I_2 x3_2 hw; exact hw.elim
    | succ n9 ih_u6 =>
      intro I_2 x3_2 hw hWF
      unfold wp_X11_laysViews_L9 at hw
      refine g_iload_n C dX11_laysViews_9 rfl 3 rfl ?_
      refine g_iload_n C dX11_laysViews_10 rfl 2 rfl ?_
      refine g_icmp_ge (tgt := 35) C dX11_laysViews_11 (by decide) (fun c87 => ?_) (fun c87 => ?_)
      · have hw := hw.1 c87
        refine g_sub [0, 1, 2] rfl ?_
        exact K35_u6 I_2 hw hWF
      · have hw := hw.2 c87
        refine g_aload_n C dX11_laysViews_14 rfl 0 rfl ?_
        refine g_getQ C dX11_laysViews_15 ft_415 z0 (hWF.q z0 15 rfl) ?_
        have zz88 := hWF.r z0 15 rfl
        refine g_iload_n C dX11_laysViews_18 rfl 3 rfl ?_
        refine g_iload_n C dX11_laysViews_19 rfl 3 rfl ?_
        refine g_if_ne (tgt := 27) C dX11_laysViews_20 (by decide) (fun c89 => ?_) (fun c89 => ?_)
        · have hw := hw.1 c89
          refine g_iconst (v := (1 : Int32)) C dX11_laysViews_27 (by decide) ?_
          refine g_iast C dX11_laysViews_28 zz88 hw.1 ?_
          have hw := hw.2
          refine g_iinc (v := (x3_2 + (1 : Int32))) (lv' := [(3, .int (x3_2 + (1 : Int32))), (0, .ref (ad h0)), (1, .int x1), (2, .int (I (rq Q h0 0) (0 : Int32).toNatClampNeg))]) C dX11_laysViews_29 (q := 3) rfl rfl (by decide) rfl ?_
          refine g_goto C dX11_laysViews_32 (tgt := 9) (by decide) ?_
          refine g_sub [1, 2, 3, 0] rfl ?_
          exact ih_u6 (sti I_2 (rq Q h0 15) x3_2.toNatClampNeg (1 : Int32)) (x3_2 + (1 : Int32)) hw hWF
        · have hw := hw.2 c89
          refine g_iconst (v := (0 : Int32)) C dX11_laysViews_23 (by decide) ?_
          refine g_goto C dX11_laysViews_24 (tgt := 28) (by decide) ?_
          refine g_iast C dX11_laysViews_28 zz88 hw.1 ?_
          have hw := hw.2
          refine g_iinc (v := (x3_2 + (1 : Int32))) (lv' := [(3, .int (x3_2 + (1 : Int32))), (0, .ref (ad h0)), (1, .int x1), (2, .int (I (rq Q h0 0) (0 : Int32).toNatClampNeg))]) C dX11_laysViews_29 (q := 3) rfl rfl (by decide) rfl ?_
          refine g_goto C dX11_laysViews_32 (tgt := 9) (by decide) ?_
          refine g_sub [1, 2, 3, 0] rfl ?_
          exact ih_u6 (sti I_2 (rq Q h0 15) x3_2.toNatClampNeg (0 : Int32)) (x3_2 + (1 : Int32)) hw hWF
  obtain ⟨n_u6, hw⟩ := hw
  refine g_sub [2, 3, 1, 0] rfl ?_
  exact L9_u6 n_u6 I (0 : Int32) hw hWF
def wp_X11_views (I : KI) (Q : KQ) (h0 : Nat) (x1 : Int32) (post : Int32 → KI → Prop) : Prop := wp_X11_in (x1.toInt64) (0 : Int64) (9 : Int64) (fun r1 => ((r1 = 0 → post (-1 : Int32) I) ∧ (¬ r1 = 0 → wp_X11_laysViews I Q h0 x1 (fun r3 I3 => post r3 I3))))
set_option maxHeartbeats 4000000 in
set_option maxRecDepth 100000 in
theorem met_X11_views {Z : Nat → Prop} {A : Nat → Prop} {D : va_G} {D2 : Nat → ClassId} {ad : Nat → Nat} {N : Nat} {T : Nat → Nat × Nat} (l : Launch) {I : KI} {J : KJ} {Q : KQ} {h0 : Nat} {x1 : Int32} {post : Int32 → KI → Prop} (hWF : WF Z N T Q) (z0 : OKr Z N T h0 (11, 0)) (hw : wp_X11_views I Q h0 x1 post) : Met l yX11_views (.code yX11_views cX11_views 2 (some .int) :: BIG) ({ frames := 3, cells := 0, slots := 0, locals := 77 }) (Pr D D2 A ad N T I J Q [.ref (ad h0), .int x1]) (va_Qi (fun (r : Int32) (u : KS) => post r u.1 ∧ u.2.1 = J ∧ u.2.2 = Q ∧ WF Z N T u.2.2) (Bw D D2 ad N T) A) 0 0 A := by
  refine Met_GG (lv0 := [(0, .ref (ad h0)), (1, .int x1)]) (by decide +kernel) [.ref (ad h0), .int x1] (Nat.le_of_ble_eq_true rfl) rfl ?_
  intro p e s m below meth c C hr
  have C : CX p s m [.ref (ad h0), .int x1].toArray meth c cX11_views 2 RX11 A D D2 := C
  unfold wp_X11_views at hw
  refine g_iload_n C dX11_views_0 rfl 1 rfl ?_
  refine g_i2l C dX11_views_1 ?_
  refine g_lconst (v := (0 : Int64)) C dX11_views_2 (by decide) ?_
  refine g_ldc2 C dX11_views_3 ft_419 ?_
  refine g_callSi (As := [.long (x1.toInt64), .long (0 : Int64), .long (9 : Int64)]) C dX11_views_6 ft_360 ft_361 (met_X11_in l hWF  hw) ⟨rfl, rfl, Nat.le_of_ble_eq_true rfl, Nat.le_of_ble_eq_true rfl⟩ ⟨Nat.zero_le _, Nat.zero_le _⟩ rfl rfl (Nat.le_of_ble_eq_true rfl) (fun r1 I1 J1 Q1 hp => ?_)
  obtain ⟨hw, eI, eJ, eQ, hWF⟩ := hp
  have eI : I = I1 := Eq.symm eI
  subst eI
  have eJ : J = J1 := Eq.symm eJ
  subst eJ
  have eQ : Q = Q1 := Eq.symm eQ
  subst eQ
  try dsimp only at hw hWF
  refine g_if_eq (tgt := 20) C dX11_views_9 (by decide) (fun c2 => ?_) (fun c2 => ?_)
  · have hw := hw.1 c2
    refine g_iconst (v := (-1 : Int32)) C dX11_views_20 (by decide) ?_
    exact g_iret C dX11_views_21 hr ⟨hw, rfl, rfl, hWF⟩
  · have hw := hw.2 c2
    refine g_aload_n C dX11_views_12 rfl 0 rfl ?_
    refine g_iload_n C dX11_views_13 rfl 1 rfl ?_
    refine g_callVi (As := [.int x1]) C dX11_views_14 ft_350 z0 ft_420 ft_421 (met_X11_laysViews l hWF z0 hw) ⟨rfl, rfl, Nat.le_of_ble_eq_true rfl, Nat.le_of_ble_eq_true rfl⟩ ⟨Nat.zero_le _, Nat.zero_le _⟩ rfl rfl (Nat.le_of_ble_eq_true rfl) (fun r3 I3 J3 Q3 hp => ?_)
    obtain ⟨hw, eJ, eQ, hWF⟩ := hp
    have eJ : J = J3 := Eq.symm eJ
    subst eJ
    have eQ : Q = Q3 := Eq.symm eQ
    subst eQ
    try dsimp only at hw hWF
    refine g_goto C dX11_views_17 (tgt := 21) (by decide) ?_
    exact g_iret C dX11_views_21 hr ⟨hw, rfl, rfl, hWF⟩
def wp_X11_view (I : KI) (Q : KQ) (h0 : Nat) (x1 : Int32) (x2 : Int32) (post : Int32 → KI → Prop) : Prop := wp_X11_in (x1.toInt64) (0 : Int64) (9 : Int64) (fun r1 => ((r1 = 0 → post (-1 : Int32) I) ∧ (¬ r1 = 0 → wp_X11_isNode I Q h0 x2 (fun r3 => ((¬ r3 = 0 → wp_X11_laysViews I Q h0 x1 (fun r5 I5 => (vp_in x2 6 ∧ post (I5 (rq Q h0 15) x2.toNatClampNeg) I5))) ∧ (r3 = 0 → post (-1 : Int32) I))))))
set_option maxHeartbeats 4000000 in
set_option maxRecDepth 100000 in
theorem met_X11_view {Z : Nat → Prop} {A : Nat → Prop} {D : va_G} {D2 : Nat → ClassId} {ad : Nat → Nat} {N : Nat} {T : Nat → Nat × Nat} (l : Launch) {I : KI} {J : KJ} {Q : KQ} {h0 : Nat} {x1 : Int32} {x2 : Int32} {post : Int32 → KI → Prop} (hWF : WF Z N T Q) (z0 : OKr Z N T h0 (11, 0)) (hw : wp_X11_view I Q h0 x1 x2 post) : Met l yX11_view (.code yX11_view cX11_view 3 (some .int) :: BIG) ({ frames := 3, cells := 0, slots := 0, locals := 77 }) (Pr D D2 A ad N T I J Q [.ref (ad h0), .int x1, .int x2]) (va_Qi (fun (r : Int32) (u : KS) => post r u.1 ∧ u.2.1 = J ∧ u.2.2 = Q ∧ WF Z N T u.2.2) (Bw D D2 ad N T) A) 0 0 A := by
  refine Met_GG (lv0 := [(0, .ref (ad h0)), (1, .int x1), (2, .int x2)]) (by decide +kernel) [.ref (ad h0), .int x1, .int x2] (Nat.le_of_ble_eq_true rfl) rfl ?_
  intro p e s m below meth c C hr
  have C : CX p s m [.ref (ad h0), .int x1, .int x2].toArray meth c cX11_view 3 RX11 A D D2 := C
  unfold wp_X11_view at hw
  refine g_iload_n C dX11_view_0 rfl 1 rfl ?_
  refine g_i2l C dX11_view_1 ?_
  refine g_lconst (v := (0 : Int64)) C dX11_view_2 (by decide) ?_
  refine g_ldc2 C dX11_view_3 ft_419 ?_
  refine g_callSi (As := [.long (x1.toInt64), .long (0 : Int64), .long (9 : Int64)]) C dX11_view_6 ft_360 ft_361 (met_X11_in l hWF  hw) ⟨rfl, rfl, Nat.le_of_ble_eq_true rfl, Nat.le_of_ble_eq_true rfl⟩ ⟨Nat.zero_le _, Nat.zero_le _⟩ rfl rfl (Nat.le_of_ble_eq_true rfl) (fun r1 I1 J1 Q1 hp => ?_)
  obtain ⟨hw, eI, eJ, eQ, hWF⟩ := hp
  have eI : I = I1 := Eq.symm eI
  subst eI
  have eJ : J = J1 := Eq.symm eJ
  subst eJ
  have eQ : Q = Q1 := Eq.symm eQ
  subst eQ
  try dsimp only at hw hWF
  refine g_if_eq (tgt := 20) C dX11_view_9 (by decide) (fun c2 => ?_) (fun c2 => ?_)
  · have hw := hw.1 c2
    refine g_iconst (v := (-1 : Int32)) C dX11_view_20 (by decide) ?_
    exact g_iret C dX11_view_21 hr ⟨hw, rfl, rfl, hWF⟩
  · have hw := hw.2 c2
    refine g_aload_n C dX11_view_12 rfl 0 rfl ?_
    refine g_iload_n C dX11_view_13 rfl 2 rfl ?_
    refine g_callVi (As := [.int x2]) C dX11_view_14 ft_350 z0 ft_397 ft_398 (met_X11_isNode l hWF z0 hw) ⟨rfl, rfl, Nat.le_of_ble_eq_true rfl, Nat.le_of_ble_eq_true rfl⟩ ⟨Nat.zero_le _, Nat.zero_le _⟩ rfl rfl (Nat.le_of_ble_eq_true rfl) (fun r3 I3 J3 Q3 hp => ?_)
    obtain ⟨hw, eI, eJ, eQ, hWF⟩ := hp
    have eI : I = I3 := Eq.symm eI
    subst eI
    have eJ : J = J3 := Eq.symm eJ
    subst eJ
    have eQ : Q = Q3 := Eq.symm eQ
    subst eQ
    try dsimp only at hw hWF
    refine g_if_ne (tgt := 22) C dX11_view_17 (by decide) (fun c4 => ?_) (fun c4 => ?_)
    · have hw := hw.1 c4
      refine g_aload_n C dX11_view_22 rfl 0 rfl ?_
      refine g_iload_n C dX11_view_23 rfl 1 rfl ?_
      refine g_callVi (As := [.int x1]) C dX11_view_24 ft_350 z0 ft_420 ft_421 (met_X11_laysViews l hWF z0 hw) ⟨rfl, rfl, Nat.le_of_ble_eq_true rfl, Nat.le_of_ble_eq_true rfl⟩ ⟨Nat.zero_le _, Nat.zero_le _⟩ rfl rfl (Nat.le_of_ble_eq_true rfl) (fun r5 I5 J5 Q5 hp => ?_)
      obtain ⟨hw, eJ, eQ, hWF⟩ := hp
      have eJ : J = J5 := Eq.symm eJ
      subst eJ
      have eQ : Q = Q5 := Eq.symm eQ
      subst eQ
      try dsimp only at hw hWF
      refine g_pop C dX11_view_27 rfl ?_
      refine g_aload_n C dX11_view_28 rfl 0 rfl ?_
      refine g_getQ C dX11_view_29 ft_415 z0 (hWF.q z0 15 rfl) ?_
      have zz6 := hWF.r z0 15 rfl
      refine g_iload_n C dX11_view_32 rfl 2 rfl ?_
      refine g_iald C dX11_view_33 zz6 hw.1 ?_
      have hw := hw.2
      exact g_iret C dX11_view_34 hr ⟨hw, rfl, rfl, hWF⟩
    · have hw := hw.2 c4
      refine g_iconst (v := (-1 : Int32)) C dX11_view_20 (by decide) ?_
      exact g_iret C dX11_view_21 hr ⟨hw, rfl, rfl, hWF⟩
