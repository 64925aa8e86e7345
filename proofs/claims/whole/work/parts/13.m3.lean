def wp_X5_chosen (I : KI) (Q : KQ) (h0 : Nat) (h1 : Nat) (x2 : Int32) (x3 : Int32) (post : Int32 → KI → Prop) : Prop := (vp_in x3 6 ∧ ((¬ x2 = 0 → ((¬ x2 = (1 : Int32) → ((¬ x2 = (2 : Int32) → post (0 : Int32) I) ∧ (x2 = (2 : Int32) → wp_X7_rank I Q (rq Q (rq Q h1 1) x3.toNatClampNeg) (fun r6 => ((¬ r6 = 0 → wp_X10_changed (I h0 3) (fun r8 => wp_X10_drawn ((sti I h0 3 r8) h0 3) (fun r9 => wp_X7_mixed (sti I h0 3 r8) Q (rq Q (rq Q h1 1) x3.toNatClampNeg) r9 (fun r10 => post r10 (sti I h0 3 r8))))) ∧ (r6 = 0 → post (0 : Int32) I)))))) ∧ (x2 = (1 : Int32) → wp_X7_told I Q (rq Q (rq Q h1 1) x3.toNatClampNeg) (fun r11 => wp_X10_leftOver (I h1 7) (I h1 4) (fun r12 => post (r11 &&& ((1 : Int32) <<< (r12 &&& 31))) I))))) ∧ (x2 = 0 → wp_X7_told I Q (rq Q (rq Q h1 1) x3.toNatClampNeg) (fun r13 => (vp_in x3 6 ∧ post ((r13 &&& ((I (rq Q h1 2) x3.toNatClampNeg) ^^^ (-1 : Int32))) &&& (-(r13 &&& ((I (rq Q h1 2) x3.toNatClampNeg) ^^^ (-1 : Int32))))) I)))))
set_option maxHeartbeats 4000000 in
set_option maxRecDepth 100000 in
theorem met_X5_chosen {Z : Nat → Prop} {A : Nat → Prop} {D : va_G} {D2 : Nat → ClassId} {ad : Nat → Nat} {N : Nat} {T : Nat → Nat × Nat} (l : Launch) {I : KI} {J : KJ} {Q : KQ} {h0 : Nat} {h1 : Nat} {x2 : Int32} {x3 : Int32} {post : Int32 → KI → Prop} (hWF : WF Z N T Q) (z0 : OKr Z N T h0 (5, 0)) (z1 : OKr Z N T h1 (1, 0)) (hw : wp_X5_chosen I Q h0 h1 x2 x3 post) : Met l yX5_chosen (.code yX5_chosen cX5_chosen 6 (some .int) :: BIG) ({ frames := 2, cells := 0, slots := 0, locals := 45 }) (Pr D D2 A ad N T I J Q [.ref (ad h0), .ref (ad h1), .int x2, .int x3]) (va_Qi (fun (r : Int32) (u : KS) => post r u.1 ∧ u.2.1 = J ∧ u.2.2 = Q ∧ WF Z N T u.2.2) (Bw D D2 ad N T) A) 0 0 A := by
  refine Met_GG (lv0 := [(0, .ref (ad h0)), (1, .ref (ad h1)), (2, .int x2), (3, .int x3)]) (by decide +kernel) [.ref (ad h0), .ref (ad h1), .int x2, .int x3] (Nat.le_of_ble_eq_true rfl) rfl ?_
  intro p e s m below meth c C hr
  have C : CX p s m [.ref (ad h0), .ref (ad h1), .int x2, .int x3].toArray meth c cX5_chosen 6 RX5 A D D2 := C
  unfold wp_X5_chosen at hw
  refine g_aload_n C dX5_chosen_0 rfl 1 rfl ?_
  refine g_getQ C dX5_chosen_1 ft_34 z1 (hWF.q z1 1 rfl) ?_
  have zz1 := hWF.r z1 1 rfl
  refine g_iload_n C dX5_chosen_4 rfl 3 rfl ?_
  have hrzz2 := rft_eS hw.1
  refine g_aaldS C dX5_chosen_5 zz1 hw.1 (hWF.q zz1 _ hrzz2) ?_
  have zz2 := hWF.r zz1 _ hrzz2
  have hw := hw.2
  refine g_astore (lv' := [(4, .ref (ad (rq Q (rq Q h1 1) x3.toNatClampNeg))), (0, .ref (ad h0)), (1, .ref (ad h1)), (2, .int x2), (3, .int x3)]) C dX5_chosen_6 (by decide) rfl ?_
  refine g_iload_n C dX5_chosen_8 rfl 3 rfl ?_
  refine g_if_ne (tgt := 35) C dX5_chosen_9 (by decide) (fun c3 => ?_) (fun c3 => ?_)
  · have hw := hw.1 c3
    refine g_iload_n C dX5_chosen_35 rfl 3 rfl ?_
    refine g_iconst (v := (1 : Int32)) C dX5_chosen_36 (by decide) ?_
    refine g_icmp_ne (tgt := 60) C dX5_chosen_37 (by decide) (fun c4 => ?_) (fun c4 => ?_)
    · have hw := hw.1 c4
      refine g_iload_n C dX5_chosen_60 rfl 3 rfl ?_
      refine g_iconst (v := (2 : Int32)) C dX5_chosen_61 (by decide) ?_
      refine g_icmp_ne (tgt := 73) C dX5_chosen_62 (by decide) (fun c5 => ?_) (fun c5 => ?_)
      · have hw := hw.1 c5
        refine g_iconst (v := (0 : Int32)) C dX5_chosen_73 (by decide) ?_
        exact g_iret C dX5_chosen_74 hr ⟨hw, rfl, rfl, hWF⟩
      · have hw := hw.2 c5
        refine g_aload C dX5_chosen_65 0 rfl ?_
        refine g_callVi (As := []) C dX5_chosen_67 ft_22 zz2 ft_31 ft_32 (met_X7_rank l hWF zz2 hw) ⟨rfl, rfl, Nat.le_of_ble_eq_true rfl, Nat.le_of_ble_eq_true rfl⟩ ⟨Nat.zero_le _, Nat.zero_le _⟩ rfl rfl (Nat.le_of_ble_eq_true rfl) (fun r6 I6 J6 Q6 hp => ?_)
        obtain ⟨hw, eI, eJ, eQ, hWF⟩ := hp
        have eI : I = I6 := Eq.symm eI
        subst eI
        have eJ : J = J6 := Eq.symm eJ
        subst eJ
        have eQ : Q = Q6 := Eq.symm eQ
        subst eQ
        try dsimp only at hw hWF
        refine g_if_ne (tgt := 75) C dX5_chosen_70 (by decide) (fun c7 => ?_) (fun c7 => ?_)
        · have hw := hw.1 c7
          refine g_aload_n C dX5_chosen_75 rfl 1 rfl ?_
          refine g_aload_n C dX5_chosen_76 rfl 1 rfl ?_
          refine g_getI C dX5_chosen_77 ft_140 z0 ?_
          refine g_callSNi (As := [.int (I h0 3)]) C dX5_chosen_80 ft_146 ft_147 (met_X10_changed l hWF  hw) ⟨rfl, rfl, Nat.le_of_ble_eq_true rfl, Nat.le_of_ble_eq_true rfl⟩ ⟨Nat.zero_le _, Nat.zero_le _⟩ rfl rfl (Nat.le_of_ble_eq_true rfl) (fun r8 I8 J8 Q8 hp => ?_)
          obtain ⟨hw, eI, eJ, eQ, hWF⟩ := hp
          have eI : I = I8 := Eq.symm eI
          subst eI
          have eJ : J = J8 := Eq.symm eJ
          subst eJ
          have eQ : Q = Q8 := Eq.symm eQ
          subst eQ
          try dsimp only at hw hWF
          refine g_putI C dX5_chosen_83 ft_141 z0 ?_
          refine g_aload C dX5_chosen_86 0 rfl ?_
          refine g_aload_n C dX5_chosen_88 rfl 1 rfl ?_
          refine g_getI C dX5_chosen_89 ft_140 z0 ?_
          refine g_callSNi (As := [.int ((sti I h0 3 r8) h0 3)]) C dX5_chosen_92 ft_144 ft_145 (met_X10_drawn l hWF  hw) ⟨rfl, rfl, Nat.le_of_ble_eq_true rfl, Nat.le_of_ble_eq_true rfl⟩ ⟨Nat.zero_le _, Nat.zero_le _⟩ rfl rfl (Nat.le_of_ble_eq_true rfl) (fun r9 I9 J9 Q9 hp => ?_)
          obtain ⟨hw, eI, eJ, eQ, hWF⟩ := hp
          have eI : (sti I h0 3 r8) = I9 := Eq.symm eI
          subst eI
          have eJ : J = J9 := Eq.symm eJ
          subst eJ
          have eQ : Q = Q9 := Eq.symm eQ
          subst eQ
          try dsimp only at hw hWF
          refine g_callVi (As := [.int r9]) C dX5_chosen_95 ft_22 zz2 ft_142 ft_143 (met_X7_mixed l hWF zz2 hw) ⟨rfl, rfl, Nat.le_of_ble_eq_true rfl, Nat.le_of_ble_eq_true rfl⟩ ⟨Nat.zero_le _, Nat.zero_le _⟩ rfl rfl (Nat.le_of_ble_eq_true rfl) (fun r10 I10 J10 Q10 hp => ?_)
          obtain ⟨hw, eI, eJ, eQ, hWF⟩ := hp
          have eI : (sti I h0 3 r8) = I10 := Eq.symm eI
          subst eI
          have eJ : J = J10 := Eq.symm eJ
          subst eJ
          have eQ : Q = Q10 := Eq.symm eQ
          subst eQ
          try dsimp only at hw hWF
          exact g_iret C dX5_chosen_98 hr ⟨hw, rfl, rfl, hWF⟩
        · have hw := hw.2 c7
          refine g_iconst (v := (0 : Int32)) C dX5_chosen_73 (by decide) ?_
          exact g_iret C dX5_chosen_74 hr ⟨hw, rfl, rfl, hWF⟩
    · have hw := hw.2 c4
      refine g_aload C dX5_chosen_40 0 rfl ?_
      refine g_callVi (As := []) C dX5_chosen_42 ft_22 zz2 ft_150 ft_151 (met_X7_told l hWF zz2 hw) ⟨rfl, rfl, Nat.le_of_ble_eq_true rfl, Nat.le_of_ble_eq_true rfl⟩ ⟨Nat.zero_le _, Nat.zero_le _⟩ rfl rfl (Nat.le_of_ble_eq_true rfl) (fun r11 I11 J11 Q11 hp => ?_)
      obtain ⟨hw, eI, eJ, eQ, hWF⟩ := hp
      have eI : I = I11 := Eq.symm eI
      subst eI
      have eJ : J = J11 := Eq.symm eJ
      subst eJ
      have eQ : Q = Q11 := Eq.symm eQ
      subst eQ
      try dsimp only at hw hWF
      refine g_iconst (v := (1 : Int32)) C dX5_chosen_45 (by decide) ?_
      refine g_aload_n C dX5_chosen_46 rfl 2 rfl ?_
      refine g_getI C dX5_chosen_47 ft_148 z1 ?_
      refine g_aload_n C dX5_chosen_50 rfl 2 rfl ?_
      refine g_getI C dX5_chosen_51 ft_23 z1 ?_
      refine g_callSNi (As := [.int (I h1 7), .int (I h1 4)]) C dX5_chosen_54 ft_149 ft_12 (met_X10_leftOver l hWF  hw) ⟨rfl, rfl, Nat.le_of_ble_eq_true rfl, Nat.le_of_ble_eq_true rfl⟩ ⟨Nat.zero_le _, Nat.zero_le _⟩ rfl rfl (Nat.le_of_ble_eq_true rfl) (fun r12 I12 J12 Q12 hp => ?_)
      obtain ⟨hw, eI, eJ, eQ, hWF⟩ := hp
      have eI : I = I12 := Eq.symm eI
      subst eI
      have eJ : J = J12 := Eq.symm eJ
      subst eJ
      have eQ : Q = Q12 := Eq.symm eQ
      subst eQ
      try dsimp only at hw hWF
      refine g_ishl C dX5_chosen_57 ?_
      refine g_iand C dX5_chosen_58 ?_
      exact g_iret C dX5_chosen_59 hr ⟨hw, rfl, rfl, hWF⟩
  · have hw := hw.2 c3
    refine g_aload C dX5_chosen_12 0 rfl ?_
    refine g_callVi (As := []) C dX5_chosen_14 ft_22 zz2 ft_150 ft_151 (met_X7_told l hWF zz2 hw) ⟨rfl, rfl, Nat.le_of_ble_eq_true rfl, Nat.le_of_ble_eq_true rfl⟩ ⟨Nat.zero_le _, Nat.zero_le _⟩ rfl rfl (Nat.le_of_ble_eq_true rfl) (fun r13 I13 J13 Q13 hp => ?_)
    obtain ⟨hw, eI, eJ, eQ, hWF⟩ := hp
    have eI : I = I13 := Eq.symm eI
    subst eI
    have eJ : J = J13 := Eq.symm eJ
    subst eJ
    have eQ : Q = Q13 := Eq.symm eQ
    subst eQ
    try dsimp only at hw hWF
    refine g_aload_n C dX5_chosen_17 rfl 2 rfl ?_
    refine g_getQ C dX5_chosen_18 ft_152 z1 (hWF.q z1 2 rfl) ?_
    have zz14 := hWF.r z1 2 rfl
    refine g_iload_n C dX5_chosen_21 rfl 4 rfl ?_
    refine g_iald C dX5_chosen_22 zz14 hw.1 ?_
    have hw := hw.2
    refine g_iconst (v := (-1 : Int32)) C dX5_chosen_23 (by decide) ?_
    refine g_ixor C dX5_chosen_24 ?_
    refine g_iand C dX5_chosen_25 ?_
    refine g_istore (lv' := [(5, .int (r13 &&& ((I (rq Q h1 2) x3.toNatClampNeg) ^^^ (-1 : Int32)))), (4, .ref (ad (rq Q (rq Q h1 1) x3.toNatClampNeg))), (0, .ref (ad h0)), (1, .ref (ad h1)), (2, .int x2), (3, .int x3)]) C dX5_chosen_26 (by decide) rfl ?_
    refine g_iload C dX5_chosen_28 0 rfl ?_
    refine g_iload C dX5_chosen_30 0 rfl ?_
    refine g_ineg C dX5_chosen_32 ?_
    refine g_iand C dX5_chosen_33 ?_
    exact g_iret C dX5_chosen_34 hr ⟨hw, rfl, rfl, hWF⟩
def wp_X5_prepare_L10 (Qf_1 : KQ) (f0_1 : Nat) (f1_1 : Nat) (f2_1 : Int32) (post : KI → Prop) : Nat → KI → Int32 → Prop
  | 0, _, _ => False
  | n10 + 1, I_1, x3_1 => (((I_1 f1_1 3) ≤ x3_1 → post I_1) ∧ (¬ (I_1 f1_1 3) ≤ x3_1 → (vp_in x3_1 6 ∧ ((¬ f2_1 = (3 : Int32) → wp_X5_chosen (sti I_1 (rq Qf_1 f0_1 1) x3_1.toNatClampNeg (0 : Int32)) Qf_1 f0_1 f1_1 f2_1 x3_1 (fun r5 I5 => wp_X5_send I5 Qf_1 f0_1 x3_1 r5 (fun I6 => wp_X5_prepare_L10 Qf_1 f0_1 f1_1 f2_1 post n10 I6 (x3_1 + (1 : Int32))))) ∧ (f2_1 = (3 : Int32) → (vp_in x3_1 6 ∧ wp_X5_sendAll (sti I_1 (rq Qf_1 f0_1 1) x3_1.toNatClampNeg (0 : Int32)) Qf_1 f0_1 (rq Qf_1 (rq Qf_1 f1_1 1) x3_1.toNatClampNeg) x3_1 (fun I9 => wp_X5_prepare_L10 Qf_1 f0_1 f1_1 f2_1 post n10 I9 (x3_1 + (1 : Int32)))))))))
def wp_X5_prepare (I : KI) (Q : KQ) (h0 : Nat) (h1 : Nat) (x2 : Int32) (post : KI → Prop) : Prop := (∃ q10, wp_X5_prepare_L10 Q h0 h1 x2 post q10 (sti I h0 3 (I h1 8)) (0 : Int32))
set_option maxHeartbeats 4000000 in
set_option maxRecDepth 100000 in
theorem met_X5_prepare {Z : Nat → Prop} {A : Nat → Prop} {D : va_G} {D2 : Nat → ClassId} {ad : Nat → Nat} {N : Nat} {T : Nat → Nat × Nat} (l : Launch) {I : KI} {J : KJ} {Q : KQ} {h0 : Nat} {h1 : Nat} {x2 : Int32} {post : KI → Prop} (hWF : WF Z N T Q) (z0 : OKr Z N T h0 (5, 0)) (z1 : OKr Z N T h1 (1, 0)) (hw : wp_X5_prepare I Q h0 h1 x2 post) : Met l yX5_prepare (.code yX5_prepare cX5_prepare 4 none :: BIG) ({ frames := 3, cells := 0, slots := 0, locals := 70 }) (Pr D D2 A ad N T I J Q [.ref (ad h0), .ref (ad h1), .int x2]) (va_Qv (fun (u : KS) => post u.1 ∧ u.2.1 = J ∧ u.2.2 = Q ∧ WF Z N T u.2.2) (Bw D D2 ad N T) A) 0 0 A := by
  refine Met_GG (lv0 := [(0, .ref (ad h0)), (1, .ref (ad h1)), (2, .int x2)]) (by decide +kernel) [.ref (ad h0), .ref (ad h1), .int x2] (Nat.le_of_ble_eq_true rfl) rfl ?_
  intro p e s m below meth c C hr
  have C : CX p s m [.ref (ad h0), .ref (ad h1), .int x2].toArray meth c cX5_prepare 4 RX5 A D D2 := C
  unfold wp_X5_prepare at hw
  refine g_aload_n C dX5_prepare_0 rfl 0 rfl ?_
  refine g_aload_n C dX5_prepare_1 rfl 1 rfl ?_
  refine g_getI C dX5_prepare_2 ft_153 z1 ?_
  refine g_putI C dX5_prepare_5 ft_141 z0 ?_
  refine g_iconst (v := (0 : Int32)) C dX5_prepare_8 (by decide) ?_
  refine g_istore_n (lv' := [(3, .int (0 : Int32)), (0, .ref (ad h0)), (1, .ref (ad h1)), (2, .int x2)]) C dX5_prepare_9 rfl (by decide) rfl ?_
  have L10_u10 : ∀ (n10 : Nat) (I_1 : KI) (x3_1 : Int32), wp_X5_prepare_L10 Q h0 h1 x2 post n10 I_1 x3_1 → WF Z N T Q → GG p l e ({ frames := 3, cells := 0, slots := 0, locals := 70 }) s m [.ref (ad h0), .ref (ad h1), .int x2].toArray below meth c 4 A D D2 0 0 (MQ below (va_Qv (fun (u : KS) => post u.1 ∧ u.2.1 = J ∧ u.2.2 = Q ∧ WF Z N T u.2.2) (Bw D D2 ad N T) A) [.ref (ad h0), .ref (ad h1), .int x2].toArray s 0 0 A) ad N T I_1 J Q 10 [(0, .ref (ad h0)), (1, .ref (ad h1)), (2, .int x2), (3, .int x3_1)] [] := by
    intro n10
    induction n10 with
    | zero => intro I_1 x3_1 hw; exact hw.elim
    | succ n10 ih_u10 =>
      intro I_1 x3_1 hw hWF
      unfold wp_X5_prepare_L10 at hw
      refine g_iload_n C dX5_prepare_10 rfl 3 rfl ?_
      refine g_aload_n C dX5_prepare_11 rfl 1 rfl ?_
      refine g_getI C dX5_prepare_12 ft_24 z1 ?_
      refine g_icmp_ge (tgt := 62) C dX5_prepare_15 (by decide) (fun c12 => ?_) (fun c12 => ?_)
      · have hw := hw.1 c12
        exact g_vret C dX5_prepare_62 hr ⟨hw, rfl, rfl, hWF⟩
      · have hw := hw.2 c12
        refine g_aload_n C dX5_prepare_18 rfl 0 rfl ?_
        refine g_getQ C dX5_prepare_19 ft_29 z0 (hWF.q z0 1 rfl) ?_
        have zz13 := hWF.r z0 1 rfl
        refine g_iload_n C dX5_prepare_22 rfl 3 rfl ?_
        refine g_iconst (v := (0 : Int32)) C dX5_prepare_23 (by decide) ?_
        refine g_iast C dX5_prepare_24 zz13 hw.1 ?_
        have hw := hw.2
        refine g_iload_n C dX5_prepare_25 rfl 2 rfl ?_
        refine g_iconst (v := (3 : Int32)) C dX5_prepare_26 (by decide) ?_
        refine g_icmp_ne (tgt := 44) C dX5_prepare_27 (by decide) (fun c14 => ?_) (fun c14 => ?_)
        · have hw := hw.1 c14
          refine g_aload_n C dX5_prepare_44 rfl 0 rfl ?_
          refine g_iload_n C dX5_prepare_45 rfl 3 rfl ?_
          refine g_aload_n C dX5_prepare_46 rfl 0 rfl ?_
          refine g_aload_n C dX5_prepare_47 rfl 1 rfl ?_
          refine g_iload_n C dX5_prepare_48 rfl 2 rfl ?_
          refine g_iload_n C dX5_prepare_49 rfl 3 rfl ?_
          refine g_callVi (As := [.ref (ad h1), .int x2, .int x3_1]) C dX5_prepare_50 ft_37 z0 ft_154 ft_155 (met_X5_chosen l hWF z0 z1 hw) ⟨rfl, rfl, Nat.le_of_ble_eq_true rfl, Nat.le_of_ble_eq_true rfl⟩ ⟨Nat.zero_le _, Nat.zero_le _⟩ rfl rfl (Nat.le_of_ble_eq_true rfl) (fun r15 I15 J15 Q15 hp => ?_)
          obtain ⟨hw, eJ, eQ, hWF⟩ := hp
          have eJ : J = J15 := Eq.symm eJ
          subst eJ
          have eQ : Q = Q15 := Eq.symm eQ
          subst eQ
          try dsimp only at hw hWF
          refine g_callVv (As := [.int x3_1, .int r15]) C dX5_prepare_53 ft_37 z0 ft_136 ft_137 (met_X5_send l hWF z0 hw) ⟨rfl, rfl, Nat.le_of_ble_eq_true rfl, Nat.le_of_ble_eq_true rfl⟩ ⟨Nat.zero_le _, Nat.zero_le _⟩ rfl rfl (Nat.le_of_ble_eq_true rfl) (fun I16 J16 Q16 hp => ?_)
          obtain ⟨hw, eJ, eQ, hWF⟩ := hp
          have eJ : J = J16 := Eq.symm eJ
          subst eJ
          have eQ : Q = Q16 := Eq.symm eQ
          subst eQ
          try dsimp only at hw hWF
          refine g_iinc (v := (x3_1 + (1 : Int32))) (lv' := [(3, .int (x3_1 + (1 : Int32))), (0, .ref (ad h0)), (1, .ref (ad h1)), (2, .int x2)]) C dX5_prepare_56 (q := 3) rfl rfl (by decide) rfl ?_
          refine g_goto C dX5_prepare_59 (tgt := 10) (by decide) ?_
          refine g_sub [1, 2, 3, 0] rfl ?_
          exact ih_u10 I16 (x3_1 + (1 : Int32)) hw hWF
        · have hw := hw.2 c14
          refine g_aload_n C dX5_prepare_30 rfl 0 rfl ?_
          refine g_aload_n C dX5_prepare_31 rfl 1 rfl ?_
          refine g_getQ C dX5_prepare_32 ft_34 z1 (hWF.q z1 1 rfl) ?_
          have zz17 := hWF.r z1 1 rfl
          refine g_iload_n C dX5_prepare_35 rfl 3 rfl ?_
          have hrzz18 := rft_eS hw.1
          refine g_aaldS C dX5_prepare_36 zz17 hw.1 (hWF.q zz17 _ hrzz18) ?_
          have zz18 := hWF.r zz17 _ hrzz18
          have hw := hw.2
          refine g_iload_n C dX5_prepare_37 rfl 3 rfl ?_
          refine g_callVv (As := [.ref (ad (rq Q (rq Q h1 1) x3_1.toNatClampNeg)), .int x3_1]) C dX5_prepare_38 ft_37 z0 ft_156 ft_157 (met_X5_sendAll l hWF z0 zz18 hw) ⟨rfl, rfl, Nat.le_of_ble_eq_true rfl, Nat.le_of_ble_eq_true rfl⟩ ⟨Nat.zero_le _, Nat.zero_le _⟩ rfl rfl (Nat.le_of_ble_eq_true rfl) (fun I19 J19 Q19 hp => ?_)
          obtain ⟨hw, eJ, eQ, hWF⟩ := hp
          have eJ : J = J19 := Eq.symm eJ
          subst eJ
          have eQ : Q = Q19 := Eq.symm eQ
          subst eQ
          try dsimp only at hw hWF
          refine g_goto C dX5_prepare_41 (tgt := 56) (by decide) ?_
          refine g_iinc (v := (x3_1 + (1 : Int32))) (lv' := [(3, .int (x3_1 + (1 : Int32))), (0, .ref (ad h0)), (1, .ref (ad h1)), (2, .int x2)]) C dX5_prepare_56 (q := 3) rfl rfl (by decide) rfl ?_
          refine g_goto C dX5_prepare_59 (tgt := 10) (by decide) ?_
          refine g_sub [1, 2, 3, 0] rfl ?_
          exact ih_u10 I19 (x3_1 + (1 : Int32)) hw hWF
  obtain ⟨n_u10, hw⟩ := hw
  refine g_sub [1, 2, 3, 0] rfl ?_
  exact L10_u10 n_u10 (sti I h0 3 (I h1 8)) (0 : Int32) hw hWF
def wp_X5_only (I : KI) (Q : KQ) (h0 : Nat) (x1 : Int32) (post : Int32 → Prop) : Prop := (vp_in x1 6 ∧ ((¬ (I (rq Q h0 1) x1.toNatClampNeg) = 0 → (vp_in (x1 * (8 : Int32)) 48 ∧ post (I (rq Q h0 0) (x1 * (8 : Int32)).toNatClampNeg))) ∧ ((I (rq Q h0 1) x1.toNatClampNeg) = 0 → post (0 : Int32))))
set_option maxHeartbeats 4000000 in
set_option maxRecDepth 100000 in
theorem met_X5_only {Z : Nat → Prop} {A : Nat → Prop} {D : va_G} {D2 : Nat → ClassId} {ad : Nat → Nat} {N : Nat} {T : Nat → Nat × Nat} (l : Launch) {I : KI} {J : KJ} {Q : KQ} {h0 : Nat} {x1 : Int32} {post : Int32 → Prop} (hWF : WF Z N T Q) (z0 : OKr Z N T h0 (5, 0)) (hw : wp_X5_only I Q h0 x1 post) : Met l yX5_only (.code yX5_only cX5_only 2 (some .int) :: BIG) ({ frames := 0, cells := 0, slots := 0, locals := 0 }) (Pr D D2 A ad N T I J Q [.ref (ad h0), .int x1]) (va_Qi (fun (r : Int32) (u : KS) => post r ∧ u.1 = I ∧ u.2.1 = J ∧ u.2.2 = Q ∧ WF Z N T u.2.2) (Bw D D2 ad N T) A) 0 0 A := by
  refine Met_GG (lv0 := [(0, .ref (ad h0)), (1, .int x1)]) (by decide +kernel) [.ref (ad h0), .int x1] (Nat.le_of_ble_eq_true rfl) rfl ?_
  intro p e s m below meth c C hr
  have C : CX p s m [.ref (ad h0), .int x1].toArray meth c cX5_only 2 RX5 A D D2 := C
  unfold wp_X5_only at hw
  refine g_aload_n C dX5_only_0 rfl 0 rfl ?_
  refine g_getQ C dX5_only_1 ft_29 z0 (hWF.q z0 1 rfl) ?_
  have zz1 := hWF.r z0 1 rfl
  refine g_iload_n C dX5_only_4 rfl 1 rfl ?_
  refine g_iald C dX5_only_5 zz1 hw.1 ?_
  have hw := hw.2
  refine g_if_ne (tgt := 13) C dX5_only_6 (by decide) (fun c2 => ?_) (fun c2 => ?_)
  · have hw := hw.1 c2
    refine g_aload_n C dX5_only_13 rfl 0 rfl ?_
    refine g_getQ C dX5_only_14 ft_25 z0 (hWF.q z0 0 rfl) ?_
    have zz3 := hWF.r z0 0 rfl
    refine g_iload_n C dX5_only_17 rfl 1 rfl ?_
    refine g_bipush (v := (8 : Int32)) C dX5_only_18 (by decide) ?_
    refine g_imul C dX5_only_20 ?_
    refine g_iald C dX5_only_21 zz3 hw.1 ?_
    have hw := hw.2
    exact g_iret C dX5_only_22 hr ⟨hw, rfl, rfl, rfl, hWF⟩
  · have hw := hw.2 c2
    refine g_iconst (v := (0 : Int32)) C dX5_only_9 (by decide) ?_
    refine g_goto C dX5_only_10 (tgt := 22) (by decide) ?_
    exact g_iret C dX5_only_22 hr ⟨hw, rfl, rfl, rfl, hWF⟩
def wp_X5_pass_L19 (Qf_2 : KQ) (f0_2 : Nat) (f1_2 : Nat) (post : KI → Prop) : Nat → KI → Int32 → Prop
  | 0, _, _ => False
  | n19 + 1, I_2, x2_2 => (((I_2 f1_2 3) ≤ x2_2 → post (sti I_2 f1_2 7 (((I_2 f1_2 7) + (1 : Int32)) &&& (2147483647 : Int32)))) ∧ (¬ (I_2 f1_2 3) ≤ x2_2 → (vp_in x2_2 6 ∧ ((¬ (I_2 f1_2 5) = 0 → (vp_in x2_2 6 ∧ (vp_in x2_2 6 ∧ wp_X1_neighbours (sti I_2 (rq Qf_2 f1_2 2) x2_2.toNatClampNeg ((I_2 (rq Qf_2 f1_2 2) x2_2.toNatClampNeg) ||| (0 : Int32))) Qf_2 f1_2 ((sti I_2 (rq Qf_2 f1_2 2) x2_2.toNatClampNeg ((I_2 (rq Qf_2 f1_2 2) x2_2.toNatClampNeg) ||| (0 : Int32))) f1_2 7) x2_2 (fun r8 => wp_X5_deliver (sti I_2 (rq Qf_2 f1_2 2) x2_2.toNatClampNeg ((I_2 (rq Qf_2 f1_2 2) x2_2.toNatClampNeg) ||| (0 : Int32))) Qf_2 f0_2 f1_2 (rq Qf_2 (rq Qf_2 f1_2 1) x2_2.toNatClampNeg) r8 (fun r9 I9 => wp_X5_pass_L19 Qf_2 f0_2 f1_2 post n19 I9 (x2_2 + (1 : Int32))))))) ∧ ((I_2 f1_2 5) = 0 → wp_X5_only I_2 Qf_2 f0_2 x2_2 (fun r10 => (vp_in x2_2 6 ∧ (vp_in x2_2 6 ∧ wp_X1_neighbours (sti I_2 (rq Qf_2 f1_2 2) x2_2.toNatClampNeg ((I_2 (rq Qf_2 f1_2 2) x2_2.toNatClampNeg) ||| r10)) Qf_2 f1_2 ((sti I_2 (rq Qf_2 f1_2 2) x2_2.toNatClampNeg ((I_2 (rq Qf_2 f1_2 2) x2_2.toNatClampNeg) ||| r10)) f1_2 7) x2_2 (fun r13 => wp_X5_deliver (sti I_2 (rq Qf_2 f1_2 2) x2_2.toNatClampNeg ((I_2 (rq Qf_2 f1_2 2) x2_2.toNatClampNeg) ||| r10)) Qf_2 f0_2 f1_2 (rq Qf_2 (rq Qf_2 f1_2 1) x2_2.toNatClampNeg) r13 (fun r14 I14 => wp_X5_pass_L19 Qf_2 f0_2 f1_2 post n19 I14 (x2_2 + (1 : Int32))))))))))))
def wp_X5_pass (I : KI) (Q : KQ) (h0 : Nat) (h1 : Nat) (post : KI → Prop) : Prop := wp_X5_prepare I Q h0 h1 (I h1 5) (fun I1 => (∃ q19, wp_X5_pass_L19 Q h0 h1 post q19 (sti I1 h1 8 (I1 h0 3)) (0 : Int32)))
set_option maxHeartbeats 4000000 in
set_option maxRecDepth 100000 in
theorem met_X5_pass {Z : Nat → Prop} {A : Nat → Prop} {D : va_G} {D2 : Nat → ClassId} {ad : Nat → Nat} {N : Nat} {T : Nat → Nat × Nat} (l : Launch) {I : KI} {J : KJ} {Q : KQ} {h0 : Nat} {h1 : Nat} {post : KI → Prop} (hWF : WF Z N T Q) (z0 : OKr Z N T h0 (5, 0)) (z1 : OKr Z N T h1 (1, 0)) (hw : wp_X5_pass I Q h0 h1 post) : Met l yX5_pass (.code yX5_pass cX5_pass 3 none :: BIG) ({ frames := 4, cells := 0, slots := 0, locals := 96 }) (Pr D D2 A ad N T I J Q [.ref (ad h0), .ref (ad h1)]) (va_Qv (fun (u : KS) => post u.1 ∧ u.2.1 = J ∧ u.2.2 = Q ∧ WF Z N T u.2.2) (Bw D D2 ad N T) A) 0 0 A := by
  refine Met_GG (lv0 := [(0, .ref (ad h0)), (1, .ref (ad h1))]) (by decide +kernel) [.ref (ad h0), .ref (ad h1)] (Nat.le_of_ble_eq_true rfl) rfl ?_
  intro p e s m below meth c C hr
  have C : CX p s m [.ref (ad h0), .ref (ad h1)].toArray meth c cX5_pass 3 RX5 A D D2 := C
  unfold wp_X5_pass at hw
  refine g_aload_n C dX5_pass_0 rfl 0 rfl ?_
  refine g_aload_n C dX5_pass_1 rfl 1 rfl ?_
  refine g_aload_n C dX5_pass_2 rfl 1 rfl ?_
  refine g_getI C dX5_pass_3 ft_158 z1 ?_
  refine g_callVv (As := [.ref (ad h1), .int (I h1 5)]) C dX5_pass_6 ft_37 z0 ft_165 ft_166 (met_X5_prepare l hWF z0 z1 hw) ⟨rfl, rfl, Nat.le_of_ble_eq_true rfl, Nat.le_of_ble_eq_true rfl⟩ ⟨Nat.zero_le _, Nat.zero_le _⟩ rfl rfl (Nat.le_of_ble_eq_true rfl) (fun I1 J1 Q1 hp => ?_)
  obtain ⟨hw, eJ, eQ, hWF⟩ := hp
  have eJ : J = J1 := Eq.symm eJ
  subst eJ
  have eQ : Q = Q1 := Eq.symm eQ
  subst eQ
  try dsimp only at hw hWF
  refine g_aload_n C dX5_pass_9 rfl 1 rfl ?_
  refine g_aload_n C dX5_pass_10 rfl 0 rfl ?_
  refine g_getI C dX5_pass_11 ft_140 z0 ?_
  refine g_putI C dX5_pass_14 ft_159 z1 ?_
  refine g_iconst (v := (0 : Int32)) C dX5_pass_17 (by decide) ?_
  refine g_istore_n (lv' := [(2, .int (0 : Int32)), (0, .ref (ad h0)), (1, .ref (ad h1))]) C dX5_pass_18 rfl (by decide) rfl ?_
  have L19_u15 : ∀ (n19 : Nat) (I_2 : KI) (x2_2 : Int32), wp_X5_pass_L19 Q h0 h1 post n19 I_2 x2_2 → WF Z N T Q → GG p l e ({ frames := 4, cells := 0, slots := 0, locals := 96 }) s m [.ref (ad h0), .ref (ad h1)].toArray below meth c 3 A D D2 0 0 (MQ below (va_Qv (fun (u : KS) => post u.1 ∧ u.2.1 = J ∧ u.2.2 = Q ∧ WF Z N T u.2.2) (Bw D D2 ad N T) A) [.ref (ad h0), .ref (ad h1)].toArray s 0 0 A) ad N T I_2 J Q 19 [(0, .ref (ad h0)), (1, .ref (ad h1)), (2, .int x2_2)] [] := by
    intro n19
    induction n19 with
    | zero => intro I_2 x2_2 hw; exact hw.elim
    | succ n19 ih_u15 =>
      intro I_2 x2_2 hw hWF
      unfold wp_X5_pass_L19 at hw
      refine g_iload_n C dX5_pass_19 rfl 2 rfl ?_
      refine g_aload_n C dX5_pass_20 rfl 1 rfl ?_
      refine g_getI C dX5_pass_21 ft_24 z1 ?_
      refine g_icmp_ge (tgt := 79) C dX5_pass_24 (by decide) (fun c17 => ?_) (fun c17 => ?_)
      · have hw := hw.1 c17
        refine g_aload_n C dX5_pass_79 rfl 1 rfl ?_
        refine g_aload_n C dX5_pass_80 rfl 1 rfl ?_
        refine g_getI C dX5_pass_81 ft_148 z1 ?_
        refine g_iconst (v := (1 : Int32)) C dX5_pass_84 (by decide) ?_
        refine g_iadd C dX5_pass_85 ?_
        refine g_ldc C dX5_pass_86 ft_160 ?_
        refine g_iand C dX5_pass_88 ?_
        refine g_putI C dX5_pass_89 ft_161 z1 ?_
        exact g_vret C dX5_pass_92 hr ⟨hw, rfl, rfl, hWF⟩
      · have hw := hw.2 c17
        refine g_aload_n C dX5_pass_27 rfl 1 rfl ?_
        refine g_getQ C dX5_pass_28 ft_152 z1 (hWF.q z1 2 rfl) ?_
        have zz18 := hWF.r z1 2 rfl
        refine g_iload_n C dX5_pass_31 rfl 2 rfl ?_
        refine g_dup2 C dX5_pass_32 rfl rfl ?_
        refine g_iald C dX5_pass_33 zz18 hw.1 ?_
        have hw := hw.2
        refine g_aload_n C dX5_pass_34 rfl 1 rfl ?_
        refine g_getI C dX5_pass_35 ft_158 z1 ?_
        refine g_if_ne (tgt := 49) C dX5_pass_38 (by decide) (fun c19 => ?_) (fun c19 => ?_)
        · have hw := hw.1 c19
          refine g_iconst (v := (0 : Int32)) C dX5_pass_49 (by decide) ?_
          refine g_ior C dX5_pass_50 ?_
          refine g_iast C dX5_pass_51 zz18 hw.1 ?_
          have hw := hw.2
          refine g_aload_n C dX5_pass_52 rfl 0 rfl ?_
          refine g_aload_n C dX5_pass_53 rfl 1 rfl ?_
          refine g_aload_n C dX5_pass_54 rfl 1 rfl ?_
          refine g_getQ C dX5_pass_55 ft_34 z1 (hWF.q z1 1 rfl) ?_
          have zz20 := hWF.r z1 1 rfl
          refine g_iload_n C dX5_pass_58 rfl 2 rfl ?_
          have hrzz21 := rft_eS hw.1
          refine g_aaldS C dX5_pass_59 zz20 hw.1 (hWF.q zz20 _ hrzz21) ?_
          have zz21 := hWF.r zz20 _ hrzz21
          have hw := hw.2
          refine g_aload_n C dX5_pass_60 rfl 1 rfl ?_
          refine g_aload_n C dX5_pass_61 rfl 1 rfl ?_
          refine g_getI C dX5_pass_62 ft_148 z1 ?_
          refine g_iload_n C dX5_pass_65 rfl 2 rfl ?_
          refine g_callVi (As := [.int ((sti I_2 (rq Q h1 2) x2_2.toNatClampNeg ((I_2 (rq Q h1 2) x2_2.toNatClampNeg) ||| (0 : Int32))) h1 7), .int x2_2]) C dX5_pass_66 ft_46 z1 ft_162 ft_45 (met_X1_neighbours l hWF z1 hw) ⟨rfl, rfl, Nat.le_of_ble_eq_true rfl, Nat.le_of_ble_eq_true rfl⟩ ⟨Nat.zero_le _, Nat.zero_le _⟩ rfl rfl (Nat.le_of_ble_eq_true rfl) (fun r22 I22 J22 Q22 hp => ?_)
          obtain ⟨hw, eI, eJ, eQ, hWF⟩ := hp
          have eI : (sti I_2 (rq Q h1 2) x2_2.toNatClampNeg ((I_2 (rq Q h1 2) x2_2.toNatClampNeg) ||| (0 : Int32))) = I22 := Eq.symm eI
          subst eI
          have eJ : J = J22 := Eq.symm eJ
          subst eJ
          have eQ : Q = Q22 := Eq.symm eQ
          subst eQ
          try dsimp only at hw hWF
          refine g_callVi (As := [.ref (ad h1), .ref (ad (rq Q (rq Q h1 1) x2_2.toNatClampNeg)), .int r22]) C dX5_pass_69 ft_37 z0 ft_35 ft_36 (met_X5_deliver l hWF z0 z1 zz21 hw) ⟨rfl, rfl, Nat.le_of_ble_eq_true rfl, Nat.le_of_ble_eq_true rfl⟩ ⟨Nat.zero_le _, Nat.zero_le _⟩ rfl rfl (Nat.le_of_ble_eq_true rfl) (fun r23 I23 J23 Q23 hp => ?_)
          obtain ⟨hw, eJ, eQ, hWF⟩ := hp
          have eJ : J = J23 := Eq.symm eJ
          subst eJ
          have eQ : Q = Q23 := Eq.symm eQ
          subst eQ
          try dsimp only at hw hWF
          refine g_pop C dX5_pass_72 rfl ?_
          refine g_iinc (v := (x2_2 + (1 : Int32))) (lv' := [(2, .int (x2_2 + (1 : Int32))), (0, .ref (ad h0)), (1, .ref (ad h1))]) C dX5_pass_73 (q := 2) rfl rfl (by decide) rfl ?_
          refine g_goto C dX5_pass_76 (tgt := 19) (by decide) ?_
          refine g_sub [1, 2, 0] rfl ?_
          exact ih_u15 I23 (x2_2 + (1 : Int32)) hw hWF
        · have hw := hw.2 c19
          refine g_aload_n C dX5_pass_41 rfl 0 rfl ?_
          refine g_iload_n C dX5_pass_42 rfl 2 rfl ?_
          refine g_callVi (As := [.int x2_2]) C dX5_pass_43 ft_37 z0 ft_163 ft_164 (met_X5_only l hWF z0 hw) ⟨rfl, rfl, Nat.le_of_ble_eq_true rfl, Nat.le_of_ble_eq_true rfl⟩ ⟨Nat.zero_le _, Nat.zero_le _⟩ rfl rfl (Nat.le_of_ble_eq_true rfl) (fun r24 I24 J24 Q24 hp => ?_)
          obtain ⟨hw, eI, eJ, eQ, hWF⟩ := hp
          have eI : I_2 = I24 := Eq.symm eI
          subst eI
          have eJ : J = J24 := Eq.symm eJ
          subst eJ
          have eQ : Q = Q24 := Eq.symm eQ
          subst eQ
          try dsimp only at hw hWF
          refine g_goto C dX5_pass_46 (tgt := 50) (by decide) ?_
          refine g_ior C dX5_pass_50 ?_
          refine g_iast C dX5_pass_51 zz18 hw.1 ?_
          have hw := hw.2
          refine g_aload_n C dX5_pass_52 rfl 0 rfl ?_
          refine g_aload_n C dX5_pass_53 rfl 1 rfl ?_
          refine g_aload_n C dX5_pass_54 rfl 1 rfl ?_
          refine g_getQ C dX5_pass_55 ft_34 z1 (hWF.q z1 1 rfl) ?_
          have zz25 := hWF.r z1 1 rfl
          refine g_iload_n C dX5_pass_58 rfl 2 rfl ?_
          have hrzz26 := rft_eS hw.1
          refine g_aaldS C dX5_pass_59 zz25 hw.1 (hWF.q zz25 _ hrzz26) ?_
          have zz26 := hWF.r zz25 _ hrzz26
          have hw := hw.2
          refine g_aload_n C dX5_pass_60 rfl 1 rfl ?_
          refine g_aload_n C dX5_pass_61 rfl 1 rfl ?_
          refine g_getI C dX5_pass_62 ft_148 z1 ?_
          refine g_iload_n C dX5_pass_65 rfl 2 rfl ?_
          refine g_callVi (As := [.int ((sti I_2 (rq Q h1 2) x2_2.toNatClampNeg ((I_2 (rq Q h1 2) x2_2.toNatClampNeg) ||| r24)) h1 7), .int x2_2]) C dX5_pass_66 ft_46 z1 ft_162 ft_45 (met_X1_neighbours l hWF z1 hw) ⟨rfl, rfl, Nat.le_of_ble_eq_true rfl, Nat.le_of_ble_eq_true rfl⟩ ⟨Nat.zero_le _, Nat.zero_le _⟩ rfl rfl (Nat.le_of_ble_eq_true rfl) (fun r27 I27 J27 Q27 hp => ?_)
          obtain ⟨hw, eI, eJ, eQ, hWF⟩ := hp
          have eI : (sti I_2 (rq Q h1 2) x2_2.toNatClampNeg ((I_2 (rq Q h1 2) x2_2.toNatClampNeg) ||| r24)) = I27 := Eq.symm eI
          subst eI
          have eJ : J = J27 := Eq.symm eJ
          subst eJ
          have eQ : Q = Q27 := Eq.symm eQ
          subst eQ
          try dsimp only at hw hWF
          refine g_callVi (As := [.ref (ad h1), .ref (ad (rq Q (rq Q h1 1) x2_2.toNatClampNeg)), .int r27]) C dX5_pass_69 ft_37 z0 ft_35 ft_36 (met_X5_deliver l hWF z0 z1 zz26 hw) ⟨rfl, rfl, Nat.le_of_ble_eq_true rfl, Nat.le_of_ble_eq_true rfl⟩ ⟨Nat.zero_le _, Nat.zero_le _⟩ rfl rfl (Nat.le_of_ble_eq_true rfl) (fun r28 I28 J28 Q28 hp => ?_)
          obtain ⟨hw, eJ, eQ, hWF⟩ := hp
          have eJ : J = J28 := Eq.symm eJ
          subst eJ
          have eQ : Q = Q28 := Eq.symm eQ
          subst eQ
          try dsimp only at hw hWF
          refine g_pop C dX5_pass_72 rfl ?_
          refine g_iinc (v := (x2_2 + (1 : Int32))) (lv' := [(2, .int (x2_2 + (1 : Int32))), (0, .ref (ad h0)), (1, .ref (ad h1))]) C dX5_pass_73 (q := 2) rfl rfl (by decide) rfl ?_
          refine g_goto C dX5_pass_76 (tgt := 19) (by decide) ?_
          refine g_sub [1, 2, 0] rfl ?_
          exact ih_u15 I28 (x2_2 + (1 : Int32)) hw hWF
  obtain ⟨n_u15, hw⟩ := hw
  refine g_sub [1, 2, 0] rfl ?_
  exact L19_u15 n_u15 (sti I1 h1 8 (I1 h0 3)) (0 : Int32) hw hWF
def wp_X5_passUntilFull_L5 (Qf_1 : KQ) (f0_1 : Nat) (f1_1 : Nat) (f2_1 : Int32) (post : Int32 → KI → Prop) : Nat → KI → Int32 → Int32 → Prop
  | 0, _, _, _ => False
  | n5 + 1, I_1, x3_1, x4_1 => ((f2_1 ≤ x4_1 → post x3_1 I_1) ∧ (¬ f2_1 ≤ x4_1 → wp_X1_allFull I_1 Qf_1 f1_1 (fun r3 => ((¬ r3 = 0 → post x3_1 I_1) ∧ (r3 = 0 → wp_X5_pass I_1 Qf_1 f0_1 f1_1 (fun I5 => wp_X5_passUntilFull_L5 Qf_1 f0_1 f1_1 f2_1 post n5 I5 (x3_1 + (1 : Int32)) (x4_1 + (1 : Int32))))))))
def wp_X5_passUntilFull (I : KI) (Q : KQ) (h0 : Nat) (h1 : Nat) (x2 : Int32) (post : Int32 → KI → Prop) : Prop := (∃ q5, wp_X5_passUntilFull_L5 Q h0 h1 x2 post q5 I (0 : Int32) (0 : Int32))
set_option maxHeartbeats 4000000 in
set_option maxRecDepth 100000 in
theorem met_X5_passUntilFull {Z : Nat → Prop} {A : Nat → Prop} {D : va_G} {D2 : Nat → ClassId} {ad : Nat → Nat} {N : Nat} {T : Nat → Nat × Nat} (l : Launch) {I : KI} {J : KJ} {Q : KQ} {h0 : Nat} {h1 : Nat} {x2 : Int32} {post : Int32 → KI → Prop} (hWF : WF Z N T Q) (z0 : OKr Z N T h0 (5, 0)) (z1 : OKr Z N T h1 (1, 0)) (hw : wp_X5_passUntilFull I Q h0 h1 x2 post) : Met l yX5_passUntilFull (.code yX5_passUntilFull cX5_passUntilFull 5 (some .int) :: BIG) ({ frames := 5, cells := 0, slots := 0, locals := 118 }) (Pr D D2 A ad N T I J Q [.ref (ad h0), .ref (ad h1), .int x2]) (va_Qi (fun (r : Int32) (u : KS) => post r u.1 ∧ u.2.1 = J ∧ u.2.2 = Q ∧ WF Z N T u.2.2) (Bw D D2 ad N T) A) 0 0 A := by
  refine Met_GG (lv0 := [(0, .ref (ad h0)), (1, .ref (ad h1)), (2, .int x2)]) (by decide +kernel) [.ref (ad h0), .ref (ad h1), .int x2] (Nat.le_of_ble_eq_true rfl) rfl ?_
  intro p e s m below meth c C hr
  have C : CX p s m [.ref (ad h0), .ref (ad h1), .int x2].toArray meth c cX5_passUntilFull 5 RX5 A D D2 := C
  unfold wp_X5_passUntilFull at hw
  refine g_iconst (v := (0 : Int32)) C dX5_passUntilFull_0 (by decide) ?_
  refine g_istore_n (lv' := [(3, .int (0 : Int32)), (0, .ref (ad h0)), (1, .ref (ad h1)), (2, .int x2)]) C dX5_passUntilFull_1 rfl (by decide) rfl ?_
  refine g_iconst (v := (0 : Int32)) C dX5_passUntilFull_2 (by decide) ?_
  refine g_istore (lv' := [(4, .int (0 : Int32)), (3, .int (0 : Int32)), (0, .ref (ad h0)), (1, .ref (ad h1)), (2, .int x2)]) C dX5_passUntilFull_3 (by decide) rfl ?_
  have L5_u6 : ∀ (n5 : Nat) (I_1 : KI) (x3_1 : Int32) (x4_1 : Int32), wp_X5_passUntilFull_L5 Q h0 h1 x2 post n5 I_1 x3_1 x4_1 → WF Z N T Q → GG p l e ({ frames := 5, cells := 0, slots := 0, locals := 118 }) s m [.ref (ad h0), .ref (ad h1), .int x2].toArray below meth c 5 A D D2 0 0 (MQ below (va_Qi (fun (r : Int32) (u : KS) => post r u.1 ∧ u.2.1 = J ∧ u.2.2 = Q ∧ WF Z N T u.2.2) (Bw D D2 ad N T) A) [.ref (ad h0), .ref (ad h1), .int x2].toArray s 0 0 A) ad N T I_1 J Q 5 [(0, .ref (ad h0)), (1, .ref (ad h1)), (2, .int x2), (3, .int x3_1), (4, .int x4_1)] [] := by
    intro n5
    induction n5 with
    | zero => intro I_1 x3_1 x4_1 hw; exact hw.elim
    | succ n5 ih_u6 =>
      intro I_1 x3_1 x4_1 hw hWF
      unfold wp_X5_passUntilFull_L5 at hw
      refine g_iload C dX5_passUntilFull_5 4 rfl ?_
      refine g_iload_n C dX5_passUntilFull_7 rfl 2 rfl ?_
      refine g_icmp_ge (tgt := 32) C dX5_passUntilFull_8 (by decide) (fun c8 => ?_) (fun c8 => ?_)
      · have hw := hw.1 c8
        refine g_iload_n C dX5_passUntilFull_32 rfl 3 rfl ?_
        exact g_iret C dX5_passUntilFull_33 hr ⟨hw, rfl, rfl, hWF⟩
      · have hw := hw.2 c8
        refine g_aload_n C dX5_passUntilFull_11 rfl 1 rfl ?_
        refine g_callVi (As := []) C dX5_passUntilFull_12 ft_46 z1 ft_169 ft_170 (met_X1_allFull l hWF z1 hw) ⟨rfl, rfl, Nat.le_of_ble_eq_true rfl, Nat.le_of_ble_eq_true rfl⟩ ⟨Nat.zero_le _, Nat.zero_le _⟩ rfl rfl (Nat.le_of_ble_eq_true rfl) (fun r9 I9 J9 Q9 hp => ?_)
        obtain ⟨hw, eI, eJ, eQ, hWF⟩ := hp
        have eI : I_1 = I9 := Eq.symm eI
        subst eI
        have eJ : J = J9 := Eq.symm eJ
        subst eJ
        have eQ : Q = Q9 := Eq.symm eQ
        subst eQ
        try dsimp only at hw hWF
        refine g_if_ne (tgt := 32) C dX5_passUntilFull_15 (by decide) (fun c10 => ?_) (fun c10 => ?_)
        · have hw := hw.1 c10
          refine g_iload_n C dX5_passUntilFull_32 rfl 3 rfl ?_
          exact g_iret C dX5_passUntilFull_33 hr ⟨hw, rfl, rfl, hWF⟩
        · have hw := hw.2 c10
          refine g_aload_n C dX5_passUntilFull_18 rfl 0 rfl ?_
          refine g_aload_n C dX5_passUntilFull_19 rfl 1 rfl ?_
          refine g_callVv (As := [.ref (ad h1)]) C dX5_passUntilFull_20 ft_37 z0 ft_167 ft_168 (met_X5_pass l hWF z0 z1 hw) ⟨rfl, rfl, Nat.le_of_ble_eq_true rfl, Nat.le_of_ble_eq_true rfl⟩ ⟨Nat.zero_le _, Nat.zero_le _⟩ rfl rfl (Nat.le_of_ble_eq_true rfl) (fun I11 J11 Q11 hp => ?_)
          obtain ⟨hw, eJ, eQ, hWF⟩ := hp
          have eJ : J = J11 := Eq.symm eJ
          subst eJ
          have eQ : Q = Q11 := Eq.symm eQ
          subst eQ
          try dsimp only at hw hWF
          refine g_iinc (v := (x3_1 + (1 : Int32))) (lv' := [(3, .int (x3_1 + (1 : Int32))), (0, .ref (ad h0)), (1, .ref (ad h1)), (2, .int x2), (4, .int x4_1)]) C dX5_passUntilFull_23 (q := 3) rfl rfl (by decide) rfl ?_
          refine g_iinc (v := (x4_1 + (1 : Int32))) (lv' := [(4, .int (x4_1 + (1 : Int32))), (3, .int (x3_1 + (1 : Int32))), (0, .ref (ad h0)), (1, .ref (ad h1)), (2, .int x2)]) C dX5_passUntilFull_26 (q := 4) rfl rfl (by decide) rfl ?_
          refine g_goto C dX5_passUntilFull_29 (tgt := 5) (by decide) ?_
          refine g_sub [2, 3, 4, 1, 0] rfl ?_
          exact ih_u6 I11 (x3_1 + (1 : Int32)) (x4_1 + (1 : Int32)) hw hWF
  obtain ⟨n_u6, hw⟩ := hw
  refine g_sub [2, 3, 4, 1, 0] rfl ?_
  exact L5_u6 n_u6 I (0 : Int32) (0 : Int32) hw hWF
def wp_X6_isNothing (I : KI) (h0 : Nat) (post : Int32 → Prop) : Prop := ((¬ (I h0 1) = (-1 : Int32) → post (0 : Int32)) ∧ ((I h0 1) = (-1 : Int32) → post (1 : Int32)))
set_option maxHeartbeats 4000000 in
set_option maxRecDepth 100000 in
theorem met_X6_isNothing {Z : Nat → Prop} {A : Nat → Prop} {D : va_G} {D2 : Nat → ClassId} {ad : Nat → Nat} {N : Nat} {T : Nat → Nat × Nat} (l : Launch) {I : KI} {J : KJ} {Q : KQ} {h0 : Nat} {post : Int32 → Prop} (hWF : WF Z N T Q) (z0 : OKr Z N T h0 (6, 0)) (hw : wp_X6_isNothing I h0 post) : Met l yX6_isNothing (.code yX6_isNothing cX6_isNothing 1 (some .boolean) :: BIG) ({ frames := 0, cells := 0, slots := 0, locals := 0 }) (Pr D D2 A ad N T I J Q [.ref (ad h0)]) (va_Qi (fun (r : Int32) (u : KS) => post r ∧ u.1 = I ∧ u.2.1 = J ∧ u.2.2 = Q ∧ WF Z N T u.2.2) (Bw D D2 ad N T) A) 0 0 A := by
  refine Met_GG (lv0 := [(0, .ref (ad h0))]) (by decide +kernel) [.ref (ad h0)] (Nat.le_of_ble_eq_true rfl) rfl ?_
  intro p e s m below meth c C hr
  have C : CX p s m [.ref (ad h0)].toArray meth c cX6_isNothing 1 RX6 A D D2 := C
  unfold wp_X6_isNothing at hw
  refine g_aload_n C dX6_isNothing_0 rfl 0 rfl ?_
  refine g_getI C dX6_isNothing_1 ft_171 z0 ?_
  refine g_iconst (v := (-1 : Int32)) C dX6_isNothing_4 (by decide) ?_
  refine g_icmp_ne (tgt := 12) C dX6_isNothing_5 (by decide) (fun c1 => ?_) (fun c1 => ?_)
  · have hw := hw.1 c1
    refine g_iconst (v := (0 : Int32)) C dX6_isNothing_12 (by decide) ?_
    exact g_zret C dX6_isNothing_13 hr rfl ⟨hw, rfl, rfl, rfl, hWF⟩
  · have hw := hw.2 c1
    refine g_iconst (v := (1 : Int32)) C dX6_isNothing_8 (by decide) ?_
    refine g_goto C dX6_isNothing_9 (tgt := 13) (by decide) ?_
    exact g_zret C dX6_isNothing_13 hr rfl ⟨hw, rfl, rfl, rfl, hWF⟩
def wp_X6_covers (I : KI) (h0 : Nat) (x1 : Int32) (x2 : Int32) (post : Int32 → Prop) : Prop := ((x1 < 0 → post (0 : Int32)) ∧ (¬ x1 < 0 → ((x2 < 0 → post (0 : Int32)) ∧ (¬ x2 < 0 → (((I h0 2) < x2 → post (0 : Int32)) ∧ (¬ (I h0 2) < x2 → ((((I h0 2) - x2) < x1 → post (0 : Int32)) ∧ (¬ ((I h0 2) - x2) < x1 → post (1 : Int32)))))))))
set_option maxHeartbeats 4000000 in
set_option maxRecDepth 100000 in
theorem met_X6_covers {Z : Nat → Prop} {A : Nat → Prop} {D : va_G} {D2 : Nat → ClassId} {ad : Nat → Nat} {N : Nat} {T : Nat → Nat × Nat} (l : Launch) {I : KI} {J : KJ} {Q : KQ} {h0 : Nat} {x1 : Int32} {x2 : Int32} {post : Int32 → Prop} (hWF : WF Z N T Q) (z0 : OKr Z N T h0 (6, 0)) (hw : wp_X6_covers I h0 x1 x2 post) : Met l yX6_covers (.code yX6_covers cX6_covers 3 (some .boolean) :: BIG) ({ frames := 0, cells := 0, slots := 0, locals := 0 }) (Pr D D2 A ad N T I J Q [.ref (ad h0), .int x1, .int x2]) (va_Qi (fun (r : Int32) (u : KS) => post r ∧ u.1 = I ∧ u.2.1 = J ∧ u.2.2 = Q ∧ WF Z N T u.2.2) (Bw D D2 ad N T) A) 0 0 A := by
  refine Met_GG (lv0 := [(0, .ref (ad h0)), (1, .int x1), (2, .int x2)]) (by decide +kernel) [.ref (ad h0), .int x1, .int x2] (Nat.le_of_ble_eq_true rfl) rfl ?_
  intro p e s m below meth c C hr
  have C : CX p s m [.ref (ad h0), .int x1, .int x2].toArray meth c cX6_covers 3 RX6 A D D2 := C
  unfold wp_X6_covers at hw
  refine g_iload_n C dX6_covers_0 rfl 1 rfl ?_
  refine g_if_lt (tgt := 30) C dX6_covers_1 (by decide) (fun c1 => ?_) (fun c1 => ?_)
  · have hw := hw.1 c1
    refine g_iconst (v := (0 : Int32)) C dX6_covers_30 (by decide) ?_
    exact g_zret C dX6_covers_31 hr rfl ⟨hw, rfl, rfl, rfl, hWF⟩
  · have hw := hw.2 c1
    refine g_iload_n C dX6_covers_4 rfl 2 rfl ?_
    refine g_if_lt (tgt := 30) C dX6_covers_5 (by decide) (fun c2 => ?_) (fun c2 => ?_)
    · have hw := hw.1 c2
      refine g_iconst (v := (0 : Int32)) C dX6_covers_30 (by decide) ?_
      exact g_zret C dX6_covers_31 hr rfl ⟨hw, rfl, rfl, rfl, hWF⟩
    · have hw := hw.2 c2
      refine g_iload_n C dX6_covers_8 rfl 2 rfl ?_
      refine g_aload_n C dX6_covers_9 rfl 0 rfl ?_
      refine g_getI C dX6_covers_10 ft_173 z0 ?_
      refine g_icmp_gt (tgt := 30) C dX6_covers_13 (by decide) (fun c3 => ?_) (fun c3 => ?_)
      · have hw := hw.1 c3
        refine g_iconst (v := (0 : Int32)) C dX6_covers_30 (by decide) ?_
        exact g_zret C dX6_covers_31 hr rfl ⟨hw, rfl, rfl, rfl, hWF⟩
      · have hw := hw.2 c3
        refine g_iload_n C dX6_covers_16 rfl 1 rfl ?_
        refine g_aload_n C dX6_covers_17 rfl 0 rfl ?_
        refine g_getI C dX6_covers_18 ft_173 z0 ?_
        refine g_iload_n C dX6_covers_21 rfl 2 rfl ?_
        refine g_isub C dX6_covers_22 ?_
        refine g_icmp_gt (tgt := 30) C dX6_covers_23 (by decide) (fun c4 => ?_) (fun c4 => ?_)
        · have hw := hw.1 c4
          refine g_iconst (v := (0 : Int32)) C dX6_covers_30 (by decide) ?_
          exact g_zret C dX6_covers_31 hr rfl ⟨hw, rfl, rfl, rfl, hWF⟩
        · have hw := hw.2 c4
          refine g_iconst (v := (1 : Int32)) C dX6_covers_26 (by decide) ?_
          refine g_goto C dX6_covers_27 (tgt := 31) (by decide) ?_
          exact g_zret C dX6_covers_31 hr rfl ⟨hw, rfl, rfl, rfl, hWF⟩
def wp_X6_renew_L12 (If_1 : KI) (Qf_1 : KQ) (f0_1 : Nat) (post : KI → KJ → Prop) : Nat → KJ → Int32 → Prop
  | 0, _, _ => False
  | n12 + 1, J_1, x3_1 => (((24 : Int32) ≤ x3_1 → post If_1 J_1) ∧ (¬ (24 : Int32) ≤ x3_1 → (vp_in x3_1 24 ∧ wp_X6_renew_L12 If_1 Qf_1 f0_1 post n12 (stj J_1 (rq Qf_1 f0_1 0) x3_1.toNatClampNeg (0 : Int64)) (x3_1 + (1 : Int32)))))
def wp_X6_renew (I : KI) (J : KJ) (Q : KQ) (h0 : Nat) (x1 : Int32) (x2 : Int32) (post : KI → KJ → Prop) : Prop := (∃ q12, wp_X6_renew_L12 (sti (sti I h0 1 x1) h0 2 x2) Q h0 post q12 J (0 : Int32))
set_option maxHeartbeats 4000000 in
set_option maxRecDepth 100000 in
theorem met_X6_renew {Z : Nat → Prop} {A : Nat → Prop} {D : va_G} {D2 : Nat → ClassId} {ad : Nat → Nat} {N : Nat} {T : Nat → Nat × Nat} (l : Launch) {I : KI} {J : KJ} {Q : KQ} {h0 : Nat} {x1 : Int32} {x2 : Int32} {post : KI → KJ → Prop} (hWF : WF Z N T Q) (z0 : OKr Z N T h0 (6, 0)) (hw : wp_X6_renew I J Q h0 x1 x2 post) : Met l yX6_renew (.code yX6_renew cX6_renew 4 none :: BIG) ({ frames := 0, cells := 0, slots := 0, locals := 0 }) (Pr D D2 A ad N T I J Q [.ref (ad h0), .int x1, .int x2]) (va_Qv (fun (u : KS) => post u.1 u.2.1 ∧ u.2.2 = Q ∧ WF Z N T u.2.2) (Bw D D2 ad N T) A) 0 0 A := by
  refine Met_GG (lv0 := [(0, .ref (ad h0)), (1, .int x1), (2, .int x2)]) (by decide +kernel) [.ref (ad h0), .int x1, .int x2] (Nat.le_of_ble_eq_true rfl) rfl ?_
  intro p e s m below meth c C hr
  have C : CX p s m [.ref (ad h0), .int x1, .int x2].toArray meth c cX6_renew 4 RX6 A D D2 := C
  unfold wp_X6_renew at hw
  refine g_aload_n C dX6_renew_0 rfl 0 rfl ?_
  refine g_iload_n C dX6_renew_1 rfl 1 rfl ?_
  refine g_putI C dX6_renew_2 ft_174 z0 ?_
  refine g_aload_n C dX6_renew_5 rfl 0 rfl ?_
  refine g_iload_n C dX6_renew_6 rfl 2 rfl ?_
  refine g_putI C dX6_renew_7 ft_175 z0 ?_
  refine g_iconst (v := (0 : Int32)) C dX6_renew_10 (by decide) ?_
  refine g_istore_n (lv' := [(3, .int (0 : Int32)), (0, .ref (ad h0)), (1, .int x1), (2, .int x2)]) C dX6_renew_11 rfl (by decide) rfl ?_
  have L12_u4 : ∀ (n12 : Nat) (J_1 : KJ) (x3_1 : Int32), wp_X6_renew_L12 (sti (sti I h0 1 x1) h0 2 x2) Q h0 post n12 J_1 x3_1 → WF Z N T Q → GG p l e ({ frames := 0, cells := 0, slots := 0, locals := 0 }) s m [.ref (ad h0), .int x1, .int x2].toArray below meth c 4 A D D2 0 0 (MQ below (va_Qv (fun (u : KS) => post u.1 u.2.1 ∧ u.2.2 = Q ∧ WF Z N T u.2.2) (Bw D D2 ad N T) A) [.ref (ad h0), .int x1, .int x2].toArray s 0 0 A) ad N T (sti (sti I h0 1 x1) h0 2 x2) J_1 Q 12 [(0, .ref (ad h0)), (3, .int x3_1)] [] := by
    intro n12
    induction n12 with
    | zero => intro J_1 x3_1 hw; exact hw.elim
    | succ n12 ih_u4 =>
      intro J_1 x3_1 hw hWF
      unfold wp_X6_renew_L12 at hw
      refine g_iload_n C dX6_renew_12 rfl 1 rfl ?_
      refine g_bipush (v := (24 : Int32)) C dX6_renew_13 (by decide) ?_
      refine g_icmp_ge (tgt := 31) C dX6_renew_15 (by decide) (fun c6 => ?_) (fun c6 => ?_)
      · have hw := hw.1 c6
        exact g_vret C dX6_renew_31 hr ⟨hw, rfl, hWF⟩
      · have hw := hw.2 c6
        refine g_aload_n C dX6_renew_18 rfl 0 rfl ?_
        refine g_getQ C dX6_renew_19 ft_176 z0 (hWF.q z0 0 rfl) ?_
        have zz7 := hWF.r z0 0 rfl
        refine g_iload_n C dX6_renew_22 rfl 1 rfl ?_
        refine g_lconst (v := (0 : Int64)) C dX6_renew_23 (by decide) ?_
        refine g_last C dX6_renew_24 zz7 hw.1 ?_
        have hw := hw.2
        refine g_iinc (v := (x3_1 + (1 : Int32))) (lv' := [(3, .int (x3_1 + (1 : Int32))), (0, .ref (ad h0))]) C dX6_renew_25 (q := 1) rfl rfl (by decide) rfl ?_
        refine g_goto C dX6_renew_28 (tgt := 12) (by decide) ?_
        refine g_sub [1, 0] rfl ?_
        exact ih_u4 (stj J_1 (rq Q h0 0) x3_1.toNatClampNeg (0 : Int64)) (x3_1 + (1 : Int32)) hw hWF
  obtain ⟨n_u4, hw⟩ := hw
  refine g_sub [1, 0] rfl ?_
  exact L12_u4 n_u4 J (0 : Int32) hw hWF
def wp_X6_lose (I : KI) (h0 : Nat) (post : Int32 → KI → Prop) : Prop := post ((sti I h0 1 (-1 : Int32)) h0 2) (sti I h0 1 (-1 : Int32))
set_option maxHeartbeats 4000000 in
set_option maxRecDepth 100000 in
theorem met_X6_lose {Z : Nat → Prop} {A : Nat → Prop} {D : va_G} {D2 : Nat → ClassId} {ad : Nat → Nat} {N : Nat} {T : Nat → Nat × Nat} (l : Launch) {I : KI} {J : KJ} {Q : KQ} {h0 : Nat} {post : Int32 → KI → Prop} (hWF : WF Z N T Q) (z0 : OKr Z N T h0 (6, 0)) (hw : wp_X6_lose I h0 post) : Met l yX6_lose (.code yX6_lose cX6_lose 1 (some .int) :: BIG) ({ frames := 0, cells := 0, slots := 0, locals := 0 }) (Pr D D2 A ad N T I J Q [.ref (ad h0)]) (va_Qi (fun (r : Int32) (u : KS) => post r u.1 ∧ u.2.1 = J ∧ u.2.2 = Q ∧ WF Z N T u.2.2) (Bw D D2 ad N T) A) 0 0 A := by
  refine Met_GG (lv0 := [(0, .ref (ad h0))]) (by decide +kernel) [.ref (ad h0)] (Nat.le_of_ble_eq_true rfl) rfl ?_
  intro p e s m below meth c C hr
  have C : CX p s m [.ref (ad h0)].toArray meth c cX6_lose 1 RX6 A D D2 := C
  unfold wp_X6_lose at hw
  refine g_aload_n C dX6_lose_0 rfl 0 rfl ?_
  refine g_iconst (v := (-1 : Int32)) C dX6_lose_1 (by decide) ?_
  refine g_putI C dX6_lose_2 ft_174 z0 ?_
  refine g_aload_n C dX6_lose_5 rfl 0 rfl ?_
  refine g_getI C dX6_lose_6 ft_173 z0 ?_
  exact g_iret C dX6_lose_9 hr ⟨hw, rfl, rfl, hWF⟩
def wp_X6_set (I : KI) (J : KJ) (Q : KQ) (h0 : Nat) (x1 : Int32) (x2 : Int64) (post : KJ → Prop) : Prop := (((I h0 1) = 0 → (vp_in x1 24 ∧ post (stj J (rq Q h0 0) x1.toNatClampNeg (((x2.toInt32).toInt8.toInt32).toInt64)))) ∧ ((I h0 1) = 1 → (vp_in x1 24 ∧ post (stj J (rq Q h0 0) x1.toNatClampNeg (((x2.toInt32).toInt16.toInt32).toInt64)))) ∧ ((I h0 1) = 2 → (vp_in x1 24 ∧ post (stj J (rq Q h0 0) x1.toNatClampNeg ((x2.toInt32).toInt64)))) ∧ (¬ (I h0 1) = 0 → ¬ (I h0 1) = 1 → ¬ (I h0 1) = 2 → (vp_in x1 24 ∧ post (stj J (rq Q h0 0) x1.toNatClampNeg x2))))
set_option maxHeartbeats 4000000 in
set_option maxRecDepth 100000 in
theorem met_X6_set {Z : Nat → Prop} {A : Nat → Prop} {D : va_G} {D2 : Nat → ClassId} {ad : Nat → Nat} {N : Nat} {T : Nat → Nat × Nat} (l : Launch) {I : KI} {J : KJ} {Q : KQ} {h0 : Nat} {x1 : Int32} {x2 : Int64} {post : KJ → Prop} (hWF : WF Z N T Q) (z0 : OKr Z N T h0 (6, 0)) (hw : wp_X6_set I J Q h0 x1 x2 post) : Met l yX6_set (.code yX6_set cX6_set 4 none :: BIG) ({ frames := 0, cells := 0, slots := 0, locals := 0 }) (Pr D D2 A ad N T I J Q [.ref (ad h0), .int x1, .long x2]) (va_Qv (fun (u : KS) => post u.2.1 ∧ u.1 = I ∧ u.2.2 = Q ∧ WF Z N T u.2.2) (Bw D D2 ad N T) A) 0 0 A := by
  refine Met_GG (lv0 := [(0, .ref (ad h0)), (1, .int x1), (2, .long x2)]) (by decide +kernel) [.ref (ad h0), .int x1, .long x2] (Nat.le_of_ble_eq_true rfl) rfl ?_
  intro p e s m below meth c C hr
  have C : CX p s m [.ref (ad h0), .int x1, .long x2].toArray meth c cX6_set 4 RX6 A D D2 := C
  unfold wp_X6_set at hw
  refine g_aload_n C dX6_set_0 rfl 0 rfl ?_
  refine g_getI C dX6_set_1 ft_171 z0 ?_
  by_cases c1 : (I h0 1) = 0
  · have hw := hw.1 c1
    refine g_tableIn (tgt := 32) C dX6_set_4 (by rw [c1]; decide) (by rw [c1]; decide) (by rw [c1]; rfl) (by decide) ?_
    refine g_aload_n C dX6_set_32 rfl 0 rfl ?_
    refine g_getQ C dX6_set_33 ft_176 z0 (hWF.q z0 0 rfl) ?_
    have zz2 := hWF.r z0 0 rfl
    refine g_iload_n C dX6_set_36 rfl 1 rfl ?_
    refine g_lload_n C dX6_set_37 rfl 2 rfl ?_
    refine g_l2i C dX6_set_38 ?_
    refine g_i2b C dX6_set_39 ?_
    refine g_i2l C dX6_set_40 ?_
    refine g_last C dX6_set_41 zz2 hw.1 ?_
    have hw := hw.2
    refine g_goto C dX6_set_42 (tgt := 77) (by decide) ?_
    exact g_vret C dX6_set_77 hr ⟨hw, rfl, rfl, hWF⟩
  by_cases c3 : (I h0 1) = 1
  · have hw := hw.2.1 c3
    refine g_tableIn (tgt := 45) C dX6_set_4 (by rw [c3]; decide) (by rw [c3]; decide) (by rw [c3]; rfl) (by decide) ?_
    refine g_aload_n C dX6_set_45 rfl 0 rfl ?_
    refine g_getQ C dX6_set_46 ft_176 z0 (hWF.q z0 0 rfl) ?_
    have zz4 := hWF.r z0 0 rfl
    refine g_iload_n C dX6_set_49 rfl 1 rfl ?_
    refine g_lload_n C dX6_set_50 rfl 2 rfl ?_
    refine g_l2i C dX6_set_51 ?_
    refine g_i2s C dX6_set_52 ?_
    refine g_i2l C dX6_set_53 ?_
    refine g_last C dX6_set_54 zz4 hw.1 ?_
    have hw := hw.2
    refine g_goto C dX6_set_55 (tgt := 77) (by decide) ?_
    exact g_vret C dX6_set_77 hr ⟨hw, rfl, rfl, hWF⟩
  by_cases c5 : (I h0 1) = 2
  · have hw := hw.2.2.1 c5
    refine g_tableIn (tgt := 58) C dX6_set_4 (by rw [c5]; decide) (by rw [c5]; decide) (by rw [c5]; rfl) (by decide) ?_
    refine g_aload_n C dX6_set_58 rfl 0 rfl ?_
    refine g_getQ C dX6_set_59 ft_176 z0 (hWF.q z0 0 rfl) ?_
    have zz6 := hWF.r z0 0 rfl
    refine g_iload_n C dX6_set_62 rfl 1 rfl ?_
    refine g_lload_n C dX6_set_63 rfl 2 rfl ?_
    refine g_l2i C dX6_set_64 ?_
    refine g_i2l C dX6_set_65 ?_
    refine g_last C dX6_set_66 zz6 hw.1 ?_
    have hw := hw.2
    refine g_goto C dX6_set_67 (tgt := 77) (by decide) ?_
    exact g_vret C dX6_set_77 hr ⟨hw, rfl, rfl, hWF⟩
  have hw := hw.2.2.2 c1 c3 c5
  refine g_tableOut (tgt := 70) C dX6_set_4 (sw_out (fun v h1 h2 => by rcases (show v = 0 ∨ v = 1 ∨ v = 2 by omega) with rfl | rfl | rfl <;> first | exact c1 | exact c3 | exact c5)) (by decide) ?_
  refine g_aload_n C dX6_set_70 rfl 0 rfl ?_
  refine g_getQ C dX6_set_71 ft_176 z0 (hWF.q z0 0 rfl) ?_
  have zz7 := hWF.r z0 0 rfl
  refine g_iload_n C dX6_set_74 rfl 1 rfl ?_
  refine g_lload_n C dX6_set_75 rfl 2 rfl ?_
  refine g_last C dX6_set_76 zz7 hw.1 ?_
  have hw := hw.2
  exact g_vret C dX6_set_77 hr ⟨hw, rfl, rfl, hWF⟩
def wp_X7_row_L5 (If_1 : KI) (Qf_1 : KQ) (f0_1 : Nat) (post : Int32 → Prop) : Nat → Int32 → Int32 → Prop
  | 0, _, _ => False
  | n5 + 1, x2_1, x3_1 => ((x3_1 < 0 → post (0 : Int32)) ∧ (¬ x3_1 < 0 → (vp_in x3_1 8 ∧ (((If_1 (rq Qf_1 f0_1 0) x3_1.toNatClampNeg) = 0 → wp_X7_row_L5 If_1 Qf_1 f0_1 post n5 x2_1 (x3_1 + (-1 : Int32))) ∧ (¬ (If_1 (rq Qf_1 f0_1 0) x3_1.toNatClampNeg) = 0 → ((¬ x2_1 = 0 → wp_X7_row_L5 If_1 Qf_1 f0_1 post n5 (x2_1 + (-1 : Int32)) (x3_1 + (-1 : Int32))) ∧ (x2_1 = 0 → (vp_in x3_1 8 ∧ post (If_1 (rq Qf_1 f0_1 0) x3_1.toNatClampNeg)))))))))
def wp_X7_row (I : KI) (Q : KQ) (h0 : Nat) (x1 : Int32) (post : Int32 → Prop) : Prop := (∃ q5, wp_X7_row_L5 I Q h0 post q5 x1 (7 : Int32))
set_option maxHeartbeats 4000000 in
set_option maxRecDepth 100000 in
theorem met_X7_row {Z : Nat → Prop} {A : Nat → Prop} {D : va_G} {D2 : Nat → ClassId} {ad : Nat → Nat} {N : Nat} {T : Nat → Nat × Nat} (l : Launch) {I : KI} {J : KJ} {Q : KQ} {h0 : Nat} {x1 : Int32} {post : Int32 → Prop} (hWF : WF Z N T Q) (z0 : OKr Z N T h0 (7, 0)) (hw : wp_X7_row I Q h0 x1 post) : Met l yX7_row (.code yX7_row cX7_row 4 (some .int) :: BIG) ({ frames := 0, cells := 0, slots := 0, locals := 0 }) (Pr D D2 A ad N T I J Q [.ref (ad h0), .int x1]) (va_Qi (fun (r : Int32) (u : KS) => post r ∧ u.1 = I ∧ u.2.1 = J ∧ u.2.2 = Q ∧ WF Z N T u.2.2) (Bw D D2 ad N T) A) 0 0 A := by
  refine Met_GG (lv0 := [(0, .ref (ad h0)), (1, .int x1)]) (by decide +kernel) [.ref (ad h0), .int x1] (Nat.le_of_ble_eq_true rfl) rfl ?_
  intro p e s m below meth c C hr
  have C : CX p s m [.ref (ad h0), .int x1].toArray meth c cX7_row 4 RX7 A D D2 := C
  unfold wp_X7_row at hw
  refine g_iload_n C dX7_row_0 rfl 1 rfl ?_
  refine g_istore_n (lv' := [(2, .int x1), (0, .ref (ad h0)), (1, .int x1)]) C dX7_row_1 rfl (by decide) rfl ?_
  refine g_bipush (v := (7 : Int32)) C dX7_row_2 (by decide) ?_
  refine g_istore_n (lv' := [(3, .int (7 : Int32)), (2, .int x1), (0, .ref (ad h0)), (1, .int x1)]) C dX7_row_4 rfl (by decide) rfl ?_
  have L5_u7 : ∀ (n5 : Nat) (x2_1 : Int32) (x3_1 : Int32), wp_X7_row_L5 I Q h0 post n5 x2_1 x3_1 → WF Z N T Q → GG p l e ({ frames := 0, cells := 0, slots := 0, locals := 0 }) s m [.ref (ad h0), .int x1].toArray below meth c 4 A D D2 0 0 (MQ below (va_Qi (fun (r : Int32) (u : KS) => post r ∧ u.1 = I ∧ u.2.1 = J ∧ u.2.2 = Q ∧ WF Z N T u.2.2) (Bw D D2 ad N T) A) [.ref (ad h0), .int x1].toArray s 0 0 A) ad N T I J Q 5 [(0, .ref (ad h0)), (2, .int x2_1), (3, .int x3_1)] [] := by
    intro n5
    induction n5 with
    | zero => intro x2_1 x3_1 hw; exact hw.elim
    | succ n5 ih_u7 =>
      intro x2_1 x3_1 hw hWF
      unfold wp_X7_row_L5 at hw
      refine g_iload_n C dX7_row_5 rfl 2 rfl ?_
      refine g_if_lt (tgt := 38) C dX7_row_6 (by decide) (fun c9 => ?_) (fun c9 => ?_)
      · have hw := hw.1 c9
        refine g_iconst (v := (0 : Int32)) C dX7_row_38 (by decide) ?_
        exact g_iret C dX7_row_39 hr ⟨hw, rfl, rfl, rfl, hWF⟩
      · have hw := hw.2 c9
        refine g_aload_n C dX7_row_9 rfl 0 rfl ?_
        refine g_getQ C dX7_row_10 ft_13 z0 (hWF.q z0 0 rfl) ?_
        have zz10 := hWF.r z0 0 rfl
        refine g_iload_n C dX7_row_13 rfl 2 rfl ?_
        refine g_iald C dX7_row_14 zz10 hw.1 ?_
        have hw := hw.2
        refine g_if_eq (tgt := 32) C dX7_row_15 (by decide) (fun c11 => ?_) (fun c11 => ?_)
        · have hw := hw.1 c11
          refine g_iinc (v := (x3_1 + (-1 : Int32))) (lv' := [(3, .int (x3_1 + (-1 : Int32))), (0, .ref (ad h0)), (2, .int x2_1)]) C dX7_row_32 (q := 2) rfl rfl (by decide) rfl ?_
          refine g_goto C dX7_row_35 (tgt := 5) (by decide) ?_
          refine g_sub [1, 2, 0] rfl ?_
          exact ih_u7 x2_1 (x3_1 + (-1 : Int32)) hw hWF
        · have hw := hw.2 c11
          refine g_iload_n C dX7_row_18 rfl 1 rfl ?_
          refine g_iinc (v := (x2_1 + (-1 : Int32))) (lv' := [(2, .int (x2_1 + (-1 : Int32))), (0, .ref (ad h0)), (3, .int x3_1)]) C dX7_row_19 (q := 1) rfl rfl (by decide) rfl ?_
          refine g_if_ne (tgt := 32) C dX7_row_22 (by decide) (fun c12 => ?_) (fun c12 => ?_)
          · have hw := hw.1 c12
            refine g_iinc (v := (x3_1 + (-1 : Int32))) (lv' := [(3, .int (x3_1 + (-1 : Int32))), (2, .int (x2_1 + (-1 : Int32))), (0, .ref (ad h0))]) C dX7_row_32 (q := 2) rfl rfl (by decide) rfl ?_
            refine g_goto C dX7_row_35 (tgt := 5) (by decide) ?_
            refine g_sub [2, 1, 0] rfl ?_
            exact ih_u7 (x2_1 + (-1 : Int32)) (x3_1 + (-1 : Int32)) hw hWF
          · have hw := hw.2 c12
            refine g_aload_n C dX7_row_25 rfl 1 rfl ?_
            refine g_getQ C dX7_row_26 ft_13 z0 (hWF.q z0 0 rfl) ?_
            have zz13 := hWF.r z0 0 rfl
            refine g_iload_n C dX7_row_29 rfl 2 rfl ?_
            refine g_iald C dX7_row_30 zz13 hw.1 ?_
            have hw := hw.2
            exact g_iret C dX7_row_31 hr ⟨hw, rfl, rfl, rfl, hWF⟩
  obtain ⟨n_u7, hw⟩ := hw
  refine g_sub [2, 1, 0] rfl ?_
  exact L5_u7 n_u7 x1 (7 : Int32) hw hWF
def wp_X8_append (I : KI) (Q : KQ) (h0 : Nat) (x1 : Int32) (post : Int32 → KI → Prop) : Prop := (((I h0 2) < 0 → post (0 : Int32) I) ∧ (¬ (I h0 2) < 0 → (((I h0 2) < (90 : Int32) → (vp_in (I h0 2) 90 ∧ post (1 : Int32) (sti (sti I (rq Q h0 0) (I h0 2).toNatClampNeg (vp_nar .char x1)) h0 2 (((sti I (rq Q h0 0) (I h0 2).toNatClampNeg (vp_nar .char x1)) h0 2) + (1 : Int32))))) ∧ (¬ (I h0 2) < (90 : Int32) → post (0 : Int32) I))))
set_option maxHeartbeats 4000000 in
set_option maxRecDepth 100000 in
theorem met_X8_append {Z : Nat → Prop} {A : Nat → Prop} {D : va_G} {D2 : Nat → ClassId} {ad : Nat → Nat} {N : Nat} {T : Nat → Nat × Nat} (l : Launch) {I : KI} {J : KJ} {Q : KQ} {h0 : Nat} {x1 : Int32} {post : Int32 → KI → Prop} (hWF : WF Z N T Q) (z0 : OKr Z N T h0 (8, 0)) (hw : wp_X8_append I Q h0 x1 post) : Met l yX8_append (.code yX8_append cX8_append 2 (some .boolean) :: BIG) ({ frames := 0, cells := 0, slots := 0, locals := 0 }) (Pr D D2 A ad N T I J Q [.ref (ad h0), .int x1]) (va_Qi (fun (r : Int32) (u : KS) => post r u.1 ∧ u.2.1 = J ∧ u.2.2 = Q ∧ WF Z N T u.2.2) (Bw D D2 ad N T) A) 0 0 A := by
  refine Met_GG (lv0 := [(0, .ref (ad h0)), (1, .int x1)]) (by decide +kernel) [.ref (ad h0), .int x1] (Nat.le_of_ble_eq_true rfl) rfl ?_
  intro p e s m below meth c C hr
  have C : CX p s m [.ref (ad h0), .int x1].toArray meth c cX8_append 2 RX8 A D D2 := C
  unfold wp_X8_append at hw
  refine g_aload_n C dX8_append_0 rfl 0 rfl ?_
  refine g_getI C dX8_append_1 ft_177 z0 ?_
  refine g_if_lt (tgt := 16) C dX8_append_4 (by decide) (fun c1 => ?_) (fun c1 => ?_)
  · have hw := hw.1 c1
    refine g_iconst (v := (0 : Int32)) C dX8_append_16 (by decide) ?_
    exact g_zret C dX8_append_17 hr rfl ⟨hw, rfl, rfl, hWF⟩
  · have hw := hw.2 c1
    refine g_aload_n C dX8_append_7 rfl 0 rfl ?_
    refine g_getI C dX8_append_8 ft_177 z0 ?_
    refine g_bipush (v := (90 : Int32)) C dX8_append_11 (by decide) ?_
    refine g_icmp_lt (tgt := 18) C dX8_append_13 (by decide) (fun c2 => ?_) (fun c2 => ?_)
    · have hw := hw.1 c2
      refine g_aload_n C dX8_append_18 rfl 0 rfl ?_
      refine g_getQ C dX8_append_19 ft_179 z0 (hWF.q z0 0 rfl) ?_
      have zz3 := hWF.r z0 0 rfl
      refine g_aload_n C dX8_append_22 rfl 0 rfl ?_
      refine g_getI C dX8_append_23 ft_177 z0 ?_
      refine g_iload_n C dX8_append_26 rfl 1 rfl ?_
      refine g_cast C dX8_append_27 zz3 hw.1 ?_
      have hw := hw.2
      refine g_aload_n C dX8_append_28 rfl 0 rfl ?_
      refine g_dup C dX8_append_29 rfl ?_
      refine g_getI C dX8_append_30 ft_177 z0 ?_
      refine g_iconst (v := (1 : Int32)) C dX8_append_33 (by decide) ?_
      refine g_iadd C dX8_append_34 ?_
      refine g_putI C dX8_append_35 ft_180 z0 ?_
      refine g_iconst (v := (1 : Int32)) C dX8_append_38 (by decide) ?_
      exact g_zret C dX8_append_39 hr rfl ⟨hw, rfl, rfl, hWF⟩
    · have hw := hw.2 c2
      refine g_iconst (v := (0 : Int32)) C dX8_append_16 (by decide) ?_
      exact g_zret C dX8_append_17 hr rfl ⟨hw, rfl, rfl, hWF⟩
def wp_X8_empty (I : KI) (h0 : Nat) (post : KI → Prop) : Prop := post (sti I h0 2 (0 : Int32))
set_option maxHeartbeats 4000000 in
set_option maxRecDepth 100000 in
theorem met_X8_empty {Z : Nat → Prop} {A : Nat → Prop} {D : va_G} {D2 : Nat → ClassId} {ad : Nat → Nat} {N : Nat} {T : Nat → Nat × Nat} (l : Launch) {I : KI} {J : KJ} {Q : KQ} {h0 : Nat} {post : KI → Prop} (hWF : WF Z N T Q) (z0 : OKr Z N T h0 (8, 0)) (hw : wp_X8_empty I h0 post) : Met l yX8_empty (.code yX8_empty cX8_empty 1 none :: BIG) ({ frames := 0, cells := 0, slots := 0, locals := 0 }) (Pr D D2 A ad N T I J Q [.ref (ad h0)]) (va_Qv (fun (u : KS) => post u.1 ∧ u.2.1 = J ∧ u.2.2 = Q ∧ WF Z N T u.2.2) (Bw D D2 ad N T) A) 0 0 A := by
  refine Met_GG (lv0 := [(0, .ref (ad h0))]) (by decide +kernel) [.ref (ad h0)] (Nat.le_of_ble_eq_true rfl) rfl ?_
  intro p e s m below meth c C hr
  have C : CX p s m [.ref (ad h0)].toArray meth c cX8_empty 1 RX8 A D D2 := C
  unfold wp_X8_empty at hw
  refine g_aload_n C dX8_empty_0 rfl 0 rfl ?_
  refine g_iconst (v := (0 : Int32)) C dX8_empty_1 (by decide) ?_
  refine g_putI C dX8_empty_2 ft_180 z0 ?_
  exact g_vret C dX8_empty_5 hr ⟨hw, rfl, rfl, hWF⟩
def wp_X8_ahead_L0 (Qf_1 : KQ) (f0_1 : Nat) (k38 : KI → Prop) : Nat → KI → Prop
  | 0, _ => False
  | n0 + 1, I_1 => (((I_1 f0_1 2) ≤ (I_1 f0_1 3) → k38 I_1) ∧ (¬ (I_1 f0_1 2) ≤ (I_1 f0_1 3) → (vp_in (I_1 f0_1 3) 90 ∧ ((¬ (I_1 (rq Qf_1 f0_1 0) (I_1 f0_1 3).toNatClampNeg) = (32 : Int32) → k38 I_1) ∧ ((I_1 (rq Qf_1 f0_1 0) (I_1 f0_1 3).toNatClampNeg) = (32 : Int32) → wp_X8_ahead_L0 Qf_1 f0_1 k38 n0 (sti I_1 f0_1 3 ((I_1 f0_1 3) + (1 : Int32))))))))
def wp_X8_ahead (I : KI) (Q : KQ) (h0 : Nat) (post : Int32 → KI → Prop) : Prop := (∃ q0, wp_X8_ahead_L0 Q h0 (fun I_6 => (((I_6 h0 2) ≤ (I_6 h0 3) → post (-1 : Int32) I_6) ∧ (¬ (I_6 h0 2) ≤ (I_6 h0 3) → (vp_in (I_6 h0 3) 90 ∧ post (I_6 (rq Q h0 0) (I_6 h0 3).toNatClampNeg) I_6)))) q0 I)
set_option maxHeartbeats 4000000 in
set_option maxRecDepth 100000 in
theorem met_X8_ahead {Z : Nat → Prop} {A : Nat → Prop} {D : va_G} {D2 : Nat → ClassId} {ad : Nat → Nat} {N : Nat} {T : Nat → Nat × Nat} (l : Launch) {I : KI} {J : KJ} {Q : KQ} {h0 : Nat} {post : Int32 → KI → Prop} (hWF : WF Z N T Q) (z0 : OKr Z N T h0 (8, 0)) (hw : wp_X8_ahead I Q h0 post) : Met l yX8_ahead (.code yX8_ahead cX8_ahead 1 (some .int) :: BIG) ({ frames := 0, cells := 0, slots := 0, locals := 0 }) (Pr D D2 A ad N T I J Q [.ref (ad h0)]) (va_Qi (fun (r : Int32) (u : KS) => post r u.1 ∧ u.2.1 = J ∧ u.2.2 = Q ∧ WF Z N T u.2.2) (Bw D D2 ad N T) A) 0 0 A := by
  refine Met_GG (lv0 := [(0, .ref (ad h0))]) (by decide +kernel) [.ref (ad h0)] (Nat.le_of_ble_eq_true rfl) rfl ?_
  intro p e s m below meth c C hr
  have C : CX p s m [.ref (ad h0)].toArray meth c cX8_ahead 1 RX8 A D D2 := C
  unfold wp_X8_ahead at hw
  have K38_u5 : ∀ (I_6 : KI), ((((I_6 h0 2) ≤ (I_6 h0 3) → post (-1 : Int32) I_6) ∧ (¬ (I_6 h0 2) ≤ (I_6 h0 3) → (vp_in (I_6 h0 3) 90 ∧ post (I_6 (rq Q h0 0) (I_6 h0 3).toNatClampNeg) I_6)))) → WF Z N T Q → GG p l e ({ frames := 0, cells := 0, slots := 0, locals := 0 }) s m [.ref (ad h0)].toArray below meth c 1 A D D2 0 0 (MQ below (va_Qi (fun (r : Int32) (u : KS) => post r u.1 ∧ u.2.1 = J ∧ u.2.2 = Q ∧ WF Z N T u.2.2) (Bw D D2 ad N T) A) [.ref (ad h0)].toArray s 0 0 A) ad N T I_6 J Q 38 [(0, .ref (ad h0))] [] := by
    intro I_6 hw hWF
    refine g_aload_n C dX8_ahead_38 rfl 0 rfl ?_
    refine g_getI C dX8_ahead_39 ft_181 z0 ?_
    refine g_aload_n C dX8_ahead_42 rfl 0 rfl ?_
    refine g_getI C dX8_ahead_43 ft_177 z0 ?_
    refine g_icmp_ge (tgt := 61) C dX8_ahead_46 (by decide) (fun c7 => ?_) (fun c7 => ?_)
    · have hw := hw.1 c7
      refine g_iconst (v := (-1 : Int32)) C dX8_ahead_61 (by decide) ?_
      exact g_iret C dX8_ahead_62 hr ⟨hw, rfl, rfl, hWF⟩
    · have hw := hw.2 c7
      refine g_aload_n C dX8_ahead_49 rfl 0 rfl ?_
      refine g_getQ C dX8_ahead_50 ft_179 z0 (hWF.q z0 0 rfl) ?_
      have zz8 := hWF.r z0 0 rfl
      refine g_aload_n C dX8_ahead_53 rfl 0 rfl ?_
      refine g_getI C dX8_ahead_54 ft_181 z0 ?_
      refine g_cald C dX8_ahead_57 zz8 hw.1 ?_
      have hw := hw.2
      refine g_goto C dX8_ahead_58 (tgt := 62) (by decide) ?_
      exact g_iret C dX8_ahead_62 hr ⟨hw, rfl, rfl, hWF⟩
  have L0_u5 : ∀ (n0 : Nat) (I_1 : KI), wp_X8_ahead_L0 Q h0 (fun I_6 => (((I_6 h0 2) ≤ (I_6 h0 3) → post (-1 : Int32) I_6) ∧ (¬ (I_6 h0 2) ≤ (I_6 h0 3) → (vp_in (I_6 h0 3) 90 ∧ post (I_6 (rq Q h0 0) (I_6 h0 3).toNatClampNeg) I_6)))) n0 I_1 → WF Z N T Q → GG p l e ({ frames := 0, cells := 0, slots := 0, locals := 0 }) s m [.ref (ad h0)].toArray below meth c 1 A D D2 0 0 (MQ below (va_Qi (fun (r : Int32) (u : KS) => post r u.1 ∧ u.2.1 = J ∧ u.2.2 = Q ∧ WF Z N T u.2.2) (Bw D D2 ad N T) A) [.ref (ad h0)].toArray s 0 0 A) ad N T I_1 J Q 0 [(0, .ref (ad h0))] [] := by
    intro n0
    induction n0 with
    | zero => intro I_1 hw; exact hw.elim
    | succ n0 ih_u5 =>
      intro I_1 hw hWF
      unfold wp_X8_ahead_L0 at hw
      refine g_aload_n C dX8_ahead_0 rfl 0 rfl ?_
      refine g_getI C dX8_ahead_1 ft_181 z0 ?_
      refine g_aload_n C dX8_ahead_4 rfl 0 rfl ?_
      refine g_getI C dX8_ahead_5 ft_177 z0 ?_
      refine g_icmp_ge (tgt := 38) C dX8_ahead_8 (by decide) (fun c10 => ?_) (fun c10 => ?_)
      · have hw := hw.1 c10
        exact K38_u5 I_1 hw hWF
      · have hw := hw.2 c10
        refine g_aload_n C dX8_ahead_11 rfl 0 rfl ?_
        refine g_getQ C dX8_ahead_12 ft_179 z0 (hWF.q z0 0 rfl) ?_
        have zz11 := hWF.r z0 0 rfl
        refine g_aload_n C dX8_ahead_15 rfl 0 rfl ?_
        refine g_getI C dX8_ahead_16 ft_181 z0 ?_
        refine g_cald C dX8_ahead_19 zz11 hw.1 ?_
        have hw := hw.2
        refine g_bipush (v := (32 : Int32)) C dX8_ahead_20 (by decide) ?_
        refine g_icmp_ne (tgt := 38) C dX8_ahead_22 (by decide) (fun c12 => ?_) (fun c12 => ?_)
        · have hw := hw.1 c12
          exact K38_u5 I_1 hw hWF
        · have hw := hw.2 c12
          refine g_aload_n C dX8_ahead_25 rfl 0 rfl ?_
          refine g_dup C dX8_ahead_26 rfl ?_
          refine g_getI C dX8_ahead_27 ft_181 z0 ?_
          refine g_iconst (v := (1 : Int32)) C dX8_ahead_30 (by decide) ?_
          refine g_iadd C dX8_ahead_31 ?_
          refine g_putI C dX8_ahead_32 ft_182 z0 ?_
          refine g_goto C dX8_ahead_35 (tgt := 0) (by decide) ?_
          exact ih_u5 (sti I_1 h0 3 ((I_1 h0 3) + (1 : Int32))) hw hWF
  obtain ⟨n_u5, hw⟩ := hw
  exact L0_u5 n_u5 I hw hWF
def wp_J0_coder_7d493  (i0 : Nat) (post : Int32 → Prop) : Prop := post (0 : Int32)
set_option maxHeartbeats 4000000 in
set_option maxRecDepth 100000 in
theorem met_J0_coder_7d493 {Z : Nat → Prop} {A : Nat → Prop} {D : va_G} {D2 : Nat → ClassId} {ad : Nat → Nat} {N : Nat} {T : Nat → Nat × Nat} (l : Launch) {I : KI} {J : KJ} {Q : KQ} {i0 : Nat} {post : Int32 → Prop} (hWF : WF Z N T Q) (hi0 : i0 < 5) (hw : wp_J0_coder_7d493 i0 post) : Met l yJ0_coder_7d493 (.code yJ0_coder_7d493 cJ0_coder_7d493 1 (some .byte) :: BIG) ({ frames := 0, cells := 0, slots := 0, locals := 0 }) (Pr D D2 A ad N T I J Q [.ref (D2 (100 + i0))]) (va_Qi (fun (r : Int32) (u : KS) => post r ∧ u.1 = I ∧ u.2.1 = J ∧ u.2.2 = Q ∧ WF Z N T u.2.2) (Bw D D2 ad N T) A) 0 0 A := by
  refine Met_GG (lv0 := [(0, .ref (D2 (100 + i0)))]) (by decide +kernel) [.ref (D2 (100 + i0))] (Nat.le_of_ble_eq_true rfl) rfl ?_
  intro p e s m below meth c C hr
  have C : CX p s m [.ref (D2 (100 + i0))].toArray meth c cJ0_coder_7d493 1 RJ0 A D D2 := C
  unfold wp_J0_coder_7d493 at hw
  refine g_sgetsC C dJ0_coder_7d493_0 ft_183 ?_
  refine g_if_eq (tgt := 13) C dJ0_coder_7d493_3 (by decide) (fun c1 => absurd c1 (by decide)) (fun _ => ?_)
  refine g_aload_n C dJ0_coder_7d493_6 rfl 0 rfl ?_
  refine g_sgetC (i := i0) C dJ0_coder_7d493_7 hi0 ft_184 ?_
  refine g_goto C dJ0_coder_7d493_10 (tgt := 14) (by decide) ?_
  exact g_zret C dJ0_coder_7d493_14 hr rfl ⟨hw, rfl, rfl, rfl, hWF⟩
def wp_J0_length_8abf5  (i0 : Nat) (post : Int32 → Prop) : Prop := wp_J0_coder_7d493 i0 (fun r1 => post ((Int32.ofNat (lenS.getD i0 0)) >>> (r1 &&& 31)))
set_option maxHeartbeats 4000000 in
set_option maxRecDepth 100000 in
theorem met_J0_length_8abf5 {Z : Nat → Prop} {A : Nat → Prop} {D : va_G} {D2 : Nat → ClassId} {ad : Nat → Nat} {N : Nat} {T : Nat → Nat × Nat} (l : Launch) {I : KI} {J : KJ} {Q : KQ} {i0 : Nat} {post : Int32 → Prop} (hWF : WF Z N T Q) (hi0 : i0 < 5) (hw : wp_J0_length_8abf5 i0 post) : Met l yJ0_length_8abf5 (.code yJ0_length_8abf5 cJ0_length_8abf5 1 (some .int) :: BIG) ({ frames := 1, cells := 0, slots := 0, locals := 20 }) (Pr D D2 A ad N T I J Q [.ref (D2 (100 + i0))]) (va_Qi (fun (r : Int32) (u : KS) => post r ∧ u.1 = I ∧ u.2.1 = J ∧ u.2.2 = Q ∧ WF Z N T u.2.2) (Bw D D2 ad N T) A) 0 0 A := by
  refine Met_GG (lv0 := [(0, .ref (D2 (100 + i0)))]) (by decide +kernel) [.ref (D2 (100 + i0))] (Nat.le_of_ble_eq_true rfl) rfl ?_
  intro p e s m below meth c C hr
  have C : CX p s m [.ref (D2 (100 + i0))].toArray meth c cJ0_length_8abf5 1 RJ0 A D D2 := C
  unfold wp_J0_length_8abf5 at hw
  refine g_aload_n C dJ0_length_8abf5_0 rfl 0 rfl ?_
  refine g_sgetV (i := i0) C dJ0_length_8abf5_1 hi0 ft_185 ?_
  refine g_slen (i := i0) C dJ0_length_8abf5_4 hi0 ?_
  refine g_aload_n C dJ0_length_8abf5_5 rfl 0 rfl ?_
  refine g_callSTR (As := []) C dJ0_length_8abf5_6 hi0 ft_186 ft_187 (met_J0_coder_7d493 l hWF hi0 hw) ⟨rfl, rfl, Nat.le_of_ble_eq_true rfl, Nat.le_of_ble_eq_true rfl⟩ ⟨Nat.zero_le _, Nat.zero_le _⟩ rfl rfl (Nat.le_of_ble_eq_true rfl) (fun r1 I1 J1 Q1 hp => ?_)
  obtain ⟨hw, eI, eJ, eQ, hWF⟩ := hp
  have eI : I = I1 := Eq.symm eI
  subst eI
  have eJ : J = J1 := Eq.symm eJ
  subst eJ
  have eQ : Q = Q1 := Eq.symm eQ
  subst eQ
  try dsimp only at hw hWF
  refine g_ishr C dJ0_length_8abf5_9 ?_
  exact g_iret C dJ0_length_8abf5_10 hr ⟨hw, rfl, rfl, rfl, hWF⟩
def wp_J0_isLatin1_aae02  (i0 : Nat) (post : Int32 → Prop) : Prop := post (1 : Int32)
set_option maxHeartbeats 4000000 in
set_option maxRecDepth 100000 in
theorem met_J0_isLatin1_aae02 {Z : Nat → Prop} {A : Nat → Prop} {D : va_G} {D2 : Nat → ClassId} {ad : Nat → Nat} {N : Nat} {T : Nat → Nat × Nat} (l : Launch) {I : KI} {J : KJ} {Q : KQ} {i0 : Nat} {post : Int32 → Prop} (hWF : WF Z N T Q) (hi0 : i0 < 5) (hw : wp_J0_isLatin1_aae02 i0 post) : Met l yJ0_isLatin1_aae02 (.code yJ0_isLatin1_aae02 cJ0_isLatin1_aae02 1 (some .boolean) :: BIG) ({ frames := 0, cells := 0, slots := 0, locals := 0 }) (Pr D D2 A ad N T I J Q [.ref (D2 (100 + i0))]) (va_Qi (fun (r : Int32) (u : KS) => post r ∧ u.1 = I ∧ u.2.1 = J ∧ u.2.2 = Q ∧ WF Z N T u.2.2) (Bw D D2 ad N T) A) 0 0 A := by
  refine Met_GG (lv0 := [(0, .ref (D2 (100 + i0)))]) (by decide +kernel) [.ref (D2 (100 + i0))] (Nat.le_of_ble_eq_true rfl) rfl ?_
  intro p e s m below meth c C hr
  have C : CX p s m [.ref (D2 (100 + i0))].toArray meth c cJ0_isLatin1_aae02 1 RJ0 A D D2 := C
  unfold wp_J0_isLatin1_aae02 at hw
  refine g_sgetsC C dJ0_isLatin1_aae02_0 ft_183 ?_
  refine g_if_eq (tgt := 17) C dJ0_isLatin1_aae02_3 (by decide) (fun c1 => absurd c1 (by decide)) (fun _ => ?_)
  refine g_aload_n C dJ0_isLatin1_aae02_6 rfl 0 rfl ?_
  refine g_sgetC (i := i0) C dJ0_isLatin1_aae02_7 hi0 ft_184 ?_
  refine g_if_ne (tgt := 17) C dJ0_isLatin1_aae02_10 (by decide) (fun c2 => absurd c2 (by decide)) (fun _ => ?_)
  refine g_iconst (v := (1 : Int32)) C dJ0_isLatin1_aae02_13 (by decide) ?_
  refine g_goto C dJ0_isLatin1_aae02_14 (tgt := 18) (by decide) ?_
  exact g_zret C dJ0_isLatin1_aae02_18 hr rfl ⟨hw, rfl, rfl, rfl, hWF⟩
def wp_J3_checkIndex_8e157  (x0 : Int32) (x1 : Int32) (post : Int32 → Prop) : Prop := ((x0 < 0 → False) ∧ (¬ x0 < 0 → ((x0 < x1 → post x0) ∧ (¬ x0 < x1 → False))))
set_option maxHeartbeats 4000000 in
set_option maxRecDepth 100000 in
theorem met_J3_checkIndex_8e157 {Z : Nat → Prop} {A : Nat → Prop} {D : va_G} {D2 : Nat → ClassId} {ad : Nat → Nat} {N : Nat} {T : Nat → Nat × Nat} (l : Launch) {I : KI} {J : KJ} {Q : KQ} {x0 : Int32} {x1 : Int32} {post : Int32 → Prop} (hWF : WF Z N T Q)  (hw : wp_J3_checkIndex_8e157 x0 x1 post) : Met l yJ3_checkIndex_8e157 (.code yJ3_checkIndex_8e157 cJ3_checkIndex_8e157 3 (some .int) :: BIG) ({ frames := 0, cells := 0, slots := 0, locals := 0 }) (Pr D D2 A ad N T I J Q [.int x0, .int x1, fmt D2]) (va_Qi (fun (r : Int32) (u : KS) => post r ∧ u.1 = I ∧ u.2.1 = J ∧ u.2.2 = Q ∧ WF Z N T u.2.2) (Bw D D2 ad N T) A) 0 0 A := by
  refine Met_GG (lv0 := [(0, .int x0), (1, .int x1), (2, fmt D2)]) (by decide +kernel) [.int x0, .int x1, fmt D2] (by unfold fmt; split <;> exact Nat.le_of_ble_eq_true rfl) rfl ?_
  intro p e s m below meth c C hr
  have C : CX p s m [.int x0, .int x1, fmt D2].toArray meth c cJ3_checkIndex_8e157 3 RJ3 A D D2 := C
  unfold wp_J3_checkIndex_8e157 at hw
  refine g_iload_n C dJ3_checkIndex_8e157_0 rfl 0 rfl ?_
  refine g_if_lt (tgt := 9) C dJ3_checkIndex_8e157_1 (by decide) (fun c1 => ?_) (fun c1 => ?_)
  · have hw := hw.1 c1
    exact hw.elim
  · have hw := hw.2 c1
    refine g_iload_n C dJ3_checkIndex_8e157_4 rfl 0 rfl ?_
    refine g_iload_n C dJ3_checkIndex_8e157_5 rfl 1 rfl ?_
    refine g_icmp_lt (tgt := 16) C dJ3_checkIndex_8e157_6 (by decide) (fun c2 => ?_) (fun c2 => ?_)
    · have hw := hw.1 c2
      refine g_iload_n C dJ3_checkIndex_8e157_16 rfl 0 rfl ?_
      exact g_iret C dJ3_checkIndex_8e157_17 hr ⟨hw, rfl, rfl, rfl, hWF⟩
    · have hw := hw.2 c2
      exact hw.elim
def wp_J0_checkIndex_df160  (x0 : Int32) (x1 : Int32) (post : Prop) : Prop := wp_J3_checkIndex_8e157 x0 x1 (fun r1 => post)
set_option maxHeartbeats 4000000 in
set_option maxRecDepth 100000 in
theorem met_J0_checkIndex_df160 {Z : Nat → Prop} {A : Nat → Prop} {D : va_G} {D2 : Nat → ClassId} {ad : Nat → Nat} {N : Nat} {T : Nat → Nat × Nat} (l : Launch) {I : KI} {J : KJ} {Q : KQ} {x0 : Int32} {x1 : Int32} {post : Prop} (hWF : WF Z N T Q)  (hw : wp_J0_checkIndex_df160 x0 x1 post) : Met l yJ0_checkIndex_df160 (.code yJ0_checkIndex_df160 cJ0_checkIndex_df160 2 none :: BIG) ({ frames := 1, cells := 0, slots := 0, locals := 22 }) (Pr D D2 A ad N T I J Q [.int x0, .int x1]) (va_Qv (fun (u : KS) => post ∧ u.1 = I ∧ u.2.1 = J ∧ u.2.2 = Q ∧ WF Z N T u.2.2) (Bw D D2 ad N T) A) 0 0 A := by
  refine Met_GG (lv0 := [(0, .int x0), (1, .int x1)]) (by decide +kernel) [.int x0, .int x1] (Nat.le_of_ble_eq_true rfl) rfl ?_
  intro p e s m below meth c C hr
  have C : CX p s m [.int x0, .int x1].toArray meth c cJ0_checkIndex_df160 2 RJ0 A D D2 := C
  unfold wp_J0_checkIndex_df160 at hw
  refine g_iload_n C dJ0_checkIndex_df160_0 rfl 0 rfl ?_
  refine g_iload_n C dJ0_checkIndex_df160_1 rfl 1 rfl ?_
  refine g_sgetsF C dJ0_checkIndex_df160_2 ft_188 ?_
  refine g_callSi (As := [.int x0, .int x1, fmt D2]) C dJ0_checkIndex_df160_5 ft_189 ft_190 (met_J3_checkIndex_8e157 l hWF  hw) ⟨rfl, rfl, Nat.le_of_ble_eq_true rfl, Nat.le_of_ble_eq_true rfl⟩ ⟨Nat.zero_le _, Nat.zero_le _⟩ rfl rfl (Nat.le_of_ble_eq_true rfl) (fun r1 I1 J1 Q1 hp => ?_)
  obtain ⟨hw, eI, eJ, eQ, hWF⟩ := hp
  have eI : I = I1 := Eq.symm eI
  subst eI
  have eJ : J = J1 := Eq.symm eJ
  subst eJ
  have eQ : Q = Q1 := Eq.symm eQ
  subst eQ
  try dsimp only at hw hWF
  refine g_pop C dJ0_checkIndex_df160_8 rfl ?_
  exact g_vret C dJ0_checkIndex_df160_9 hr ⟨hw, rfl, rfl, rfl, hWF⟩
def wp_J1_charAt_3b067  (i0 : Nat) (x1 : Int32) (post : Int32 → Prop) : Prop := wp_J0_checkIndex_df160 x1 (Int32.ofNat (lenS.getD i0 0)) ((vp_in x1 (lenS.getD i0 0) ∧ (narrow .char (.int (((((bytS.getD i0 []).getD x1.toNatClampNeg 0) &&& (255 : Int32)).toUInt32 % 65536).toInt32)) = .int (((((bytS.getD i0 []).getD x1.toNatClampNeg 0) &&& (255 : Int32)).toUInt32 % 65536).toInt32) ∧ post (((((bytS.getD i0 []).getD x1.toNatClampNeg 0) &&& (255 : Int32)).toUInt32 % 65536).toInt32))))
set_option maxHeartbeats 4000000 in
set_option maxRecDepth 100000 in
theorem met_J1_charAt_3b067 {Z : Nat → Prop} {A : Nat → Prop} {D : va_G} {D2 : Nat → ClassId} {ad : Nat → Nat} {N : Nat} {T : Nat → Nat × Nat} (l : Launch) {I : KI} {J : KJ} {Q : KQ} {i0 : Nat} {x1 : Int32} {post : Int32 → Prop} (hWF : WF Z N T Q) (hi0 : i0 < 5) (hw : wp_J1_charAt_3b067 i0 x1 post) : Met l yJ1_charAt_3b067 (.code yJ1_charAt_3b067 cJ1_charAt_3b067 2 (some .char) :: BIG) ({ frames := 2, cells := 0, slots := 0, locals := 43 }) (Pr D D2 A ad N T I J Q [.ref (D2 (200 + i0)), .int x1]) (va_Qi (fun (r : Int32) (u : KS) => post r ∧ u.1 = I ∧ u.2.1 = J ∧ u.2.2 = Q ∧ WF Z N T u.2.2) (Bw D D2 ad N T) A) 0 0 A := by
  refine Met_GG (lv0 := [(0, .ref (D2 (200 + i0))), (1, .int x1)]) (by decide +kernel) [.ref (D2 (200 + i0)), .int x1] (Nat.le_of_ble_eq_true rfl) rfl ?_
  intro p e s m below meth c C hr
  have C : CX p s m [.ref (D2 (200 + i0)), .int x1].toArray meth c cJ1_charAt_3b067 2 RJ1 A D D2 := C
  unfold wp_J1_charAt_3b067 at hw
  refine g_iload_n C dJ1_charAt_3b067_0 rfl 1 rfl ?_
  refine g_aload_n C dJ1_charAt_3b067_1 rfl 0 rfl ?_
  refine g_slen (i := i0) C dJ1_charAt_3b067_2 hi0 ?_
  refine g_callSv (As := [.int x1, .int (Int32.ofNat (lenS.getD i0 0))]) C dJ1_charAt_3b067_3 ft_191 ft_192 (met_J0_checkIndex_df160 l hWF  hw) ⟨rfl, rfl, Nat.le_of_ble_eq_true rfl, Nat.le_of_ble_eq_true rfl⟩ ⟨Nat.zero_le _, Nat.zero_le _⟩ rfl rfl (Nat.le_of_ble_eq_true rfl) (fun I1 J1 Q1 hp => ?_)
  obtain ⟨hw, eI, eJ, eQ, hWF⟩ := hp
  have eI : I = I1 := Eq.symm eI
  subst eI
  have eJ : J = J1 := Eq.symm eJ
  subst eJ
  have eQ : Q = Q1 := Eq.symm eQ
  subst eQ
  try dsimp only at hw hWF
  refine g_aload_n C dJ1_charAt_3b067_6 rfl 0 rfl ?_
  refine g_iload_n C dJ1_charAt_3b067_7 rfl 1 rfl ?_
  refine g_sbald (i := i0) C dJ1_charAt_3b067_8 hi0 hw.1 ?_
  have hw := hw.2
  refine g_sipush (v := (255 : Int32)) C dJ1_charAt_3b067_9 (by decide) ?_
  refine g_iand C dJ1_charAt_3b067_12 ?_
  refine g_i2c C dJ1_charAt_3b067_13 ?_
  exact g_zret C dJ1_charAt_3b067_14 hr hw.1 ⟨hw.2, rfl, rfl, rfl, hWF⟩
def wp_J0_charAt_5068e  (i0 : Nat) (x1 : Int32) (post : Int32 → Prop) : Prop := wp_J0_isLatin1_aae02 i0 (fun r1 => ((r1 = 0 → False) ∧ (¬ r1 = 0 → wp_J1_charAt_3b067 i0 x1 (fun r3 => (narrow .char (.int r3) = .int r3 ∧ post r3)))))
set_option maxHeartbeats 4000000 in
set_option maxRecDepth 100000 in
theorem met_J0_charAt_5068e {Z : Nat → Prop} {A : Nat → Prop} {D : va_G} {D2 : Nat → ClassId} {ad : Nat → Nat} {N : Nat} {T : Nat → Nat × Nat} (l : Launch) {I : KI} {J : KJ} {Q : KQ} {i0 : Nat} {x1 : Int32} {post : Int32 → Prop} (hWF : WF Z N T Q) (hi0 : i0 < 5) (hw : wp_J0_charAt_5068e i0 x1 post) : Met l yJ0_charAt_5068e (.code yJ0_charAt_5068e cJ0_charAt_5068e 2 (some .char) :: BIG) ({ frames := 3, cells := 0, slots := 0, locals := 64 }) (Pr D D2 A ad N T I J Q [.ref (D2 (100 + i0)), .int x1]) (va_Qi (fun (r : Int32) (u : KS) => post r ∧ u.1 = I ∧ u.2.1 = J ∧ u.2.2 = Q ∧ WF Z N T u.2.2) (Bw D D2 ad N T) A) 0 0 A := by
  refine Met_GG (lv0 := [(0, .ref (D2 (100 + i0))), (1, .int x1)]) (by decide +kernel) [.ref (D2 (100 + i0)), .int x1] (Nat.le_of_ble_eq_true rfl) rfl ?_
  intro p e s m below meth c C hr
  have C : CX p s m [.ref (D2 (100 + i0)), .int x1].toArray meth c cJ0_charAt_5068e 2 RJ0 A D D2 := C
  unfold wp_J0_charAt_5068e at hw
  refine g_aload_n C dJ0_charAt_5068e_0 rfl 0 rfl ?_
  refine g_callSTR (As := []) C dJ0_charAt_5068e_1 hi0 ft_195 ft_196 (met_J0_isLatin1_aae02 l hWF hi0 hw) ⟨rfl, rfl, Nat.le_of_ble_eq_true rfl, Nat.le_of_ble_eq_true rfl⟩ ⟨Nat.zero_le _, Nat.zero_le _⟩ rfl rfl (Nat.le_of_ble_eq_true rfl) (fun r1 I1 J1 Q1 hp => ?_)
  obtain ⟨hw, eI, eJ, eQ, hWF⟩ := hp
  have eI : I = I1 := Eq.symm eI
  subst eI
  have eJ : J = J1 := Eq.symm eJ
  subst eJ
  have eQ : Q = Q1 := Eq.symm eQ
  subst eQ
  try dsimp only at hw hWF
  refine g_if_eq (tgt := 16) C dJ0_charAt_5068e_4 (by decide) (fun c2 => ?_) (fun c2 => ?_)
  · have hw := hw.1 c2
    exact hw.elim
  · have hw := hw.2 c2
    refine g_aload_n C dJ0_charAt_5068e_7 rfl 0 rfl ?_
    refine g_sgetV (i := i0) C dJ0_charAt_5068e_8 hi0 ft_185 ?_
    refine g_iload_n C dJ0_charAt_5068e_11 rfl 1 rfl ?_
    refine g_callSi (As := [.ref (D2 (200 + i0)), .int x1]) C dJ0_charAt_5068e_12 ft_193 ft_194 (met_J1_charAt_3b067 l hWF hi0 hw) ⟨rfl, rfl, Nat.le_of_ble_eq_true rfl, Nat.le_of_ble_eq_true rfl⟩ ⟨Nat.zero_le _, Nat.zero_le _⟩ rfl rfl (Nat.le_of_ble_eq_true rfl) (fun r3 I3 J3 Q3 hp => ?_)
    obtain ⟨hw, eI, eJ, eQ, hWF⟩ := hp
    have eI : I = I3 := Eq.symm eI
    subst eI
    have eJ : J = J3 := Eq.symm eJ
    subst eJ
    have eQ : Q = Q3 := Eq.symm eQ
    subst eQ
    try dsimp only at hw hWF
    exact g_zret C dJ0_charAt_5068e_15 hr hw.1 ⟨hw.2, rfl, rfl, rfl, hWF⟩
def wp_X8_isName_L17 (If_3 : KI) (Qf_3 : KQ) (f0_3 : Nat) (f1_3 : Int32) (f2_3 : Nat) (post : Int32 → Prop) : Nat → Int32 → Prop
  | 0, _ => False
  | n17 + 1, x3_3 => wp_J0_length_8abf5 f2_3 (fun r4 => ((r4 ≤ x3_3 → post (1 : Int32)) ∧ (¬ r4 ≤ x3_3 → (vp_in (f1_3 + x3_3) 90 ∧ wp_J0_charAt_5068e f2_3 x3_3 (fun r7 => (((If_3 (rq Qf_3 f0_3 0) (f1_3 + x3_3).toNatClampNeg) = r7 → wp_X8_isName_L17 If_3 Qf_3 f0_3 f1_3 f2_3 post n17 (x3_3 + (1 : Int32))) ∧ (¬ (If_3 (rq Qf_3 f0_3 0) (f1_3 + x3_3).toNatClampNeg) = r7 → post (0 : Int32))))))))
def wp_X8_isName (I : KI) (Q : KQ) (h0 : Nat) (x1 : Int32) (i2 : Nat) (post : Int32 → Prop) : Prop := wp_J0_length_8abf5 i2 (fun r1 => ((((I h0 3) - x1) = r1 → (∃ q17, wp_X8_isName_L17 I Q h0 x1 i2 post q17 (0 : Int32))) ∧ (¬ ((I h0 3) - x1) = r1 → post (0 : Int32))))
set_option maxHeartbeats 4000000 in
set_option maxRecDepth 100000 in
theorem met_X8_isName {Z : Nat → Prop} {A : Nat → Prop} {D : va_G} {D2 : Nat → ClassId} {ad : Nat → Nat} {N : Nat} {T : Nat → Nat × Nat} (l : Launch) {I : KI} {J : KJ} {Q : KQ} {h0 : Nat} {x1 : Int32} {i2 : Nat} {post : Int32 → Prop} (hWF : WF Z N T Q) (z0 : OKr Z N T h0 (8, 0)) (hi2 : i2 < 5) (hw : wp_X8_isName I Q h0 x1 i2 post) : Met l yX8_isName (.code yX8_isName cX8_isName 4 (some .boolean) :: BIG) ({ frames := 4, cells := 0, slots := 0, locals := 85 }) (Pr D D2 A ad N T I J Q [.ref (ad h0), .int x1, .ref (D2 (100 + i2))]) (va_Qi (fun (r : Int32) (u : KS) => post r ∧ u.1 = I ∧ u.2.1 = J ∧ u.2.2 = Q ∧ WF Z N T u.2.2) (Bw D D2 ad N T) A) 0 0 A := by
  refine Met_GG (lv0 := [(0, .ref (ad h0)), (1, .int x1), (2, .ref (D2 (100 + i2)))]) (by decide +kernel) [.ref (ad h0), .int x1, .ref (D2 (100 + i2))] (Nat.le_of_ble_eq_true rfl) rfl ?_
  intro p e s m below meth c C hr
  have C : CX p s m [.ref (ad h0), .int x1, .ref (D2 (100 + i2))].toArray meth c cX8_isName 4 RX8 A D D2 := C
  unfold wp_X8_isName at hw
  refine g_aload_n C dX8_isName_0 rfl 0 rfl ?_
  refine g_getI C dX8_isName_1 ft_181 z0 ?_
  refine g_iload_n C dX8_isName_4 rfl 1 rfl ?_
  refine g_isub C dX8_isName_5 ?_
  refine g_aload_n C dX8_isName_6 rfl 2 rfl ?_
  refine g_callSTR (As := []) C dX8_isName_7 hi2 ft_199 ft_200 (met_J0_length_8abf5 l hWF hi2 hw) ⟨rfl, rfl, Nat.le_of_ble_eq_true rfl, Nat.le_of_ble_eq_true rfl⟩ ⟨Nat.zero_le _, Nat.zero_le _⟩ rfl rfl (Nat.le_of_ble_eq_true rfl) (fun r1 I1 J1 Q1 hp => ?_)
  obtain ⟨hw, eI, eJ, eQ, hWF⟩ := hp
  have eI : I = I1 := Eq.symm eI
  subst eI
  have eJ : J = J1 := Eq.symm eJ
  subst eJ
  have eQ : Q = Q1 := Eq.symm eQ
  subst eQ
  try dsimp only at hw hWF
  refine g_icmp_eq (tgt := 15) C dX8_isName_10 (by decide) (fun c2 => ?_) (fun c2 => ?_)
  · have hw := hw.1 c2
    refine g_iconst (v := (0 : Int32)) C dX8_isName_15 (by decide) ?_
    refine g_istore_n (lv' := [(3, .int (0 : Int32)), (0, .ref (ad h0)), (1, .int x1), (2, .ref (D2 (100 + i2)))]) C dX8_isName_16 rfl (by decide) rfl ?_
    have L17_u9 : ∀ (n17 : Nat) (x3_3 : Int32), wp_X8_isName_L17 I Q h0 x1 i2 post n17 x3_3 → WF Z N T Q → GG p l e ({ frames := 4, cells := 0, slots := 0, locals := 85 }) s m [.ref (ad h0), .int x1, .ref (D2 (100 + i2))].toArray below meth c 4 A D D2 0 0 (MQ below (va_Qi (fun (r : Int32) (u : KS) => post r ∧ u.1 = I ∧ u.2.1 = J ∧ u.2.2 = Q ∧ WF Z N T u.2.2) (Bw D D2 ad N T) A) [.ref (ad h0), .int x1, .ref (D2 (100 + i2))].toArray s 0 0 A) ad N T I J Q 17 [(0, .ref (ad h0)), (1, .int x1), (2, .ref (D2 (100 + i2))), (3, .int x3_3)] [] := by
      intro n17
      induction n17 with
      | zero => intro x3_3 hw; exact hw.elim
      | succ n17 ih_u9 =>
        intro x3_3 hw hWF
        unfold wp_X8_isName_L17 at hw
        refine g_iload_n C dX8_isName_17 rfl 3 rfl ?_
        refine g_aload_n C dX8_isName_18 rfl 2 rfl ?_
        refine g_callSTR (As := []) C dX8_isName_19 hi2 ft_199 ft_200 (met_J0_length_8abf5 l hWF hi2 hw) ⟨rfl, rfl, Nat.le_of_ble_eq_true rfl, Nat.le_of_ble_eq_true rfl⟩ ⟨Nat.zero_le _, Nat.zero_le _⟩ rfl rfl (Nat.le_of_ble_eq_true rfl) (fun r11 I11 J11 Q11 hp => ?_)
        obtain ⟨hw, eI, eJ, eQ, hWF⟩ := hp
        have eI : I = I11 := Eq.symm eI
        subst eI
        have eJ : J = J11 := Eq.symm eJ
        subst eJ
        have eQ : Q = Q11 := Eq.symm eQ
        subst eQ
        try dsimp only at hw hWF
        refine g_icmp_ge (tgt := 49) C dX8_isName_22 (by decide) (fun c12 => ?_) (fun c12 => ?_)
        · have hw := hw.1 c12
          refine g_iconst (v := (1 : Int32)) C dX8_isName_49 (by decide) ?_
          exact g_zret C dX8_isName_50 hr rfl ⟨hw, rfl, rfl, rfl, hWF⟩
        · have hw := hw.2 c12
          refine g_aload_n C dX8_isName_25 rfl 0 rfl ?_
          refine g_getQ C dX8_isName_26 ft_179 z0 (hWF.q z0 0 rfl) ?_
          have zz13 := hWF.r z0 0 rfl
          refine g_iload_n C dX8_isName_29 rfl 1 rfl ?_
          refine g_iload_n C dX8_isName_30 rfl 3 rfl ?_
          refine g_iadd C dX8_isName_31 ?_
          refine g_cald C dX8_isName_32 zz13 hw.1 ?_
          have hw := hw.2
          refine g_aload_n C dX8_isName_33 rfl 2 rfl ?_
          refine g_iload_n C dX8_isName_34 rfl 3 rfl ?_
          refine g_callSTR (As := [.int x3_3]) C dX8_isName_35 hi2 ft_197 ft_198 (met_J0_charAt_5068e l hWF hi2 hw) ⟨rfl, rfl, Nat.le_of_ble_eq_true rfl, Nat.le_of_ble_eq_true rfl⟩ ⟨Nat.zero_le _, Nat.zero_le _⟩ rfl rfl (Nat.le_of_ble_eq_true rfl) (fun r14 I14 J14 Q14 hp => ?_)
          obtain ⟨hw, eI, eJ, eQ, hWF⟩ := hp
          have eI : I = I14 := Eq.symm eI
          subst eI
          have eJ : J = J14 := Eq.symm eJ
          subst eJ
          have eQ : Q = Q14 := Eq.symm eQ
          subst eQ
          try dsimp only at hw hWF
          refine g_icmp_eq (tgt := 43) C dX8_isName_38 (by decide) (fun c15 => ?_) (fun c15 => ?_)
          · have hw := hw.1 c15
            refine g_iinc (v := (x3_3 + (1 : Int32))) (lv' := [(3, .int (x3_3 + (1 : Int32))), (0, .ref (ad h0)), (1, .int x1), (2, .ref (D2 (100 + i2)))]) C dX8_isName_43 (q := 3) rfl rfl (by decide) rfl ?_
            refine g_goto C dX8_isName_46 (tgt := 17) (by decide) ?_
            refine g_sub [1, 2, 3, 0] rfl ?_
            exact ih_u9 (x3_3 + (1 : Int32)) hw hWF
          · have hw := hw.2 c15
            refine g_iconst (v := (0 : Int32)) C dX8_isName_41 (by decide) ?_
            exact g_zret C dX8_isName_42 hr rfl ⟨hw, rfl, rfl, rfl, hWF⟩
    obtain ⟨n_u9, hw⟩ := hw
    refine g_sub [1, 2, 3, 0] rfl ?_
    exact L17_u9 n_u9 (0 : Int32) hw hWF
  · have hw := hw.2 c2
    refine g_iconst (v := (0 : Int32)) C dX8_isName_13 (by decide) ?_
    exact g_zret C dX8_isName_14 hr rfl ⟨hw, rfl, rfl, rfl, hWF⟩
def wp_X8_figure (I : KI) (Q : KQ) (h0 : Nat) (post : Int32 → KI → Prop) : Prop := wp_X8_ahead I Q h0 (fun r1 I1 => (((r1 - (48 : Int32)) < 0 → post (-1 : Int32) I1) ∧ (¬ (r1 - (48 : Int32)) < 0 → (((I1 h0 4) ≤ (r1 - (48 : Int32)) → post (-1 : Int32) I1) ∧ (¬ (I1 h0 4) ≤ (r1 - (48 : Int32)) → post (r1 - (48 : Int32)) I1)))))
set_option maxHeartbeats 4000000 in
set_option maxRecDepth 100000 in
theorem met_X8_figure {Z : Nat → Prop} {A : Nat → Prop} {D : va_G} {D2 : Nat → ClassId} {ad : Nat → Nat} {N : Nat} {T : Nat → Nat × Nat} (l : Launch) {I : KI} {J : KJ} {Q : KQ} {h0 : Nat} {post : Int32 → KI → Prop} (hWF : WF Z N T Q) (z0 : OKr Z N T h0 (8, 0)) (hw : wp_X8_figure I Q h0 post) : Met l yX8_figure (.code yX8_figure cX8_figure 2 (some .int) :: BIG) ({ frames := 1, cells := 0, slots := 0, locals := 20 }) (Pr D D2 A ad N T I J Q [.ref (ad h0)]) (va_Qi (fun (r : Int32) (u : KS) => post r u.1 ∧ u.2.1 = J ∧ u.2.2 = Q ∧ WF Z N T u.2.2) (Bw D D2 ad N T) A) 0 0 A := by
  refine Met_GG (lv0 := [(0, .ref (ad h0))]) (by decide +kernel) [.ref (ad h0)] (Nat.le_of_ble_eq_true rfl) rfl ?_
  intro p e s m below meth c C hr
  have C : CX p s m [.ref (ad h0)].toArray meth c cX8_figure 2 RX8 A D D2 := C
  unfold wp_X8_figure at hw
  refine g_aload_n C dX8_figure_0 rfl 0 rfl ?_
  refine g_callVi (As := []) C dX8_figure_1 ft_204 z0 ft_202 ft_203 (met_X8_ahead l hWF z0 hw) ⟨rfl, rfl, Nat.le_of_ble_eq_true rfl, Nat.le_of_ble_eq_true rfl⟩ ⟨Nat.zero_le _, Nat.zero_le _⟩ rfl rfl (Nat.le_of_ble_eq_true rfl) (fun r1 I1 J1 Q1 hp => ?_)
  obtain ⟨hw, eJ, eQ, hWF⟩ := hp
  have eJ : J = J1 := Eq.symm eJ
  subst eJ
  have eQ : Q = Q1 := Eq.symm eQ
  subst eQ
  try dsimp only at hw hWF
  refine g_bipush (v := (48 : Int32)) C dX8_figure_4 (by decide) ?_
  refine g_isub C dX8_figure_6 ?_
  refine g_istore_n (lv' := [(1, .int (r1 - (48 : Int32))), (0, .ref (ad h0))]) C dX8_figure_7 rfl (by decide) rfl ?_
  refine g_iload_n C dX8_figure_8 rfl 0 rfl ?_
  refine g_if_lt (tgt := 24) C dX8_figure_9 (by decide) (fun c2 => ?_) (fun c2 => ?_)
  · have hw := hw.1 c2
    refine g_iconst (v := (-1 : Int32)) C dX8_figure_24 (by decide) ?_
    exact g_iret C dX8_figure_25 hr ⟨hw, rfl, rfl, hWF⟩
  · have hw := hw.2 c2
    refine g_iload_n C dX8_figure_12 rfl 0 rfl ?_
    refine g_aload_n C dX8_figure_13 rfl 1 rfl ?_
    refine g_getI C dX8_figure_14 ft_201 z0 ?_
    refine g_icmp_ge (tgt := 24) C dX8_figure_17 (by decide) (fun c3 => ?_) (fun c3 => ?_)
    · have hw := hw.1 c3
      refine g_iconst (v := (-1 : Int32)) C dX8_figure_24 (by decide) ?_
      exact g_iret C dX8_figure_25 hr ⟨hw, rfl, rfl, hWF⟩
    · have hw := hw.2 c3
      refine g_iload_n C dX8_figure_20 rfl 0 rfl ?_
      refine g_goto C dX8_figure_21 (tgt := 25) (by decide) ?_
      exact g_iret C dX8_figure_25 hr ⟨hw, rfl, rfl, hWF⟩
def wp_X8_isRow_L11 (Qf_1 : KQ) (f0_1 : Nat) (f1_1 : Int32) (post : Int32 → KI → Prop) (k93 : KI → Int32 → Int32 → Prop) : Nat → KI → Int32 → Int32 → Int32 → Int32 → Prop
  | 0, _, _, _, _, _ => False
  | n11 + 1, I_1, x3_1, x4_1, x5_1, x6_1 => (((I_1 f0_1 4) ≤ x6_1 → k93 I_1 x4_1 x5_1) ∧ (¬ (I_1 f0_1 4) ≤ x6_1 → wp_X8_figure I_1 Qf_1 f0_1 (fun r3 I3 => ((r3 < 0 → post (0 : Int32) I3) ∧ (¬ r3 < 0 → wp_X10_has x3_1 r3 (fun r5 => ((r5 = 0 → ((¬ x6_1 = 0 → wp_X4_link (sti I3 f0_1 3 ((I3 f0_1 3) + (1 : Int32))) Qf_1 (rq Qf_1 f0_1 1) f1_1 x5_1 r3 (fun I9 => wp_X8_isRow_L11 Qf_1 f0_1 f1_1 post k93 n11 I9 (x3_1 ||| ((1 : Int32) <<< (r3 &&& 31))) x4_1 r3 (x6_1 + (1 : Int32)))) ∧ (x6_1 = 0 → wp_X8_isRow_L11 Qf_1 f0_1 f1_1 post k93 n11 (sti I3 f0_1 3 ((I3 f0_1 3) + (1 : Int32))) (x3_1 ||| ((1 : Int32) <<< (r3 &&& 31))) r3 r3 (x6_1 + (1 : Int32))))) ∧ (¬ r5 = 0 → post (0 : Int32) I3))))))))
def wp_X8_isRow (I : KI) (Q : KQ) (h0 : Nat) (x1 : Int32) (x2 : Int32) (post : Int32 → KI → Prop) : Prop := (∃ q11, wp_X8_isRow_L11 Q h0 x1 post (fun I_11 x4_11 x5_11 => ((x2 = 0 → post (1 : Int32) I_11) ∧ (¬ x2 = 0 → wp_X4_link I_11 Q (rq Q h0 1) x1 x5_11 x4_11 (fun I14 => post (1 : Int32) I14)))) q11 I (0 : Int32) (-1 : Int32) (-1 : Int32) (0 : Int32))
set_option maxHeartbeats 4000000 in
set_option maxRecDepth 100000 in
theorem met_X8_isRow {Z : Nat → Prop} {A : Nat → Prop} {D : va_G} {D2 : Nat → ClassId} {ad : Nat → Nat} {N : Nat} {T : Nat → Nat × Nat} (l : Launch) {I : KI} {J : KJ} {Q : KQ} {h0 : Nat} {x1 : Int32} {x2 : Int32} {post : Int32 → KI → Prop} (hWF : WF Z N T Q) (z0 : OKr Z N T h0 (8, 0)) (hw : wp_X8_isRow I Q h0 x1 x2 post) : Met l yX8_isRow (.code yX8_isRow cX8_isRow 8 (some .boolean) :: BIG) ({ frames := 2, cells := 0, slots := 0, locals := 47 }) (Pr D D2 A ad N T I J Q [.ref (ad h0), .int x1, .int x2]) (va_Qi (fun (r : Int32) (u : KS) => post r u.1 ∧ u.2.1 = J ∧ u.2.2 = Q ∧ WF Z N T u.2.2) (Bw D D2 ad N T) A) 0 0 A := by
  refine Met_GG (lv0 := [(0, .ref (ad h0)), (1, .int x1), (2, .int x2)]) (by decide +kernel) [.ref (ad h0), .int x1, .int x2] (Nat.le_of_ble_eq_true rfl) rfl ?_
  intro p e s m below meth c C hr
  have C : CX p s m [.ref (ad h0), .int x1, .int x2].toArray meth c cX8_isRow 8 RX8 A D D2 := C
  unfold wp_X8_isRow at hw
  refine g_iconst (v := (0 : Int32)) C dX8_isRow_0 (by decide) ?_
  refine g_istore_n (lv' := [(3, .int (0 : Int32)), (0, .ref (ad h0)), (1, .int x1), (2, .int x2)]) C dX8_isRow_1 rfl (by decide) rfl ?_
  refine g_iconst (v := (-1 : Int32)) C dX8_isRow_2 (by decide) ?_
  refine g_istore (lv' := [(4, .int (-1 : Int32)), (3, .int (0 : Int32)), (0, .ref (ad h0)), (1, .int x1), (2, .int x2)]) C dX8_isRow_3 (by decide) rfl ?_
  refine g_iconst (v := (-1 : Int32)) C dX8_isRow_5 (by decide) ?_
  refine g_istore (lv' := [(5, .int (-1 : Int32)), (4, .int (-1 : Int32)), (3, .int (0 : Int32)), (0, .ref (ad h0)), (1, .int x1), (2, .int x2)]) C dX8_isRow_6 (by decide) rfl ?_
  refine g_iconst (v := (0 : Int32)) C dX8_isRow_8 (by decide) ?_
  refine g_istore (lv' := [(6, .int (0 : Int32)), (5, .int (-1 : Int32)), (4, .int (-1 : Int32)), (3, .int (0 : Int32)), (0, .ref (ad h0)), (1, .int x1), (2, .int x2)]) C dX8_isRow_9 (by decide) rfl ?_
  have K93_u10 : ∀ (I_11 : KI) (x4_11 : Int32) (x5_11 : Int32), (((x2 = 0 → post (1 : Int32) I_11) ∧ (¬ x2 = 0 → wp_X4_link I_11 Q (rq Q h0 1) x1 x5_11 x4_11 (fun I14 => post (1 : Int32) I14)))) → WF Z N T Q → GG p l e ({ frames := 2, cells := 0, slots := 0, locals := 47 }) s m [.ref (ad h0), .int x1, .int x2].toArray below meth c 8 A D D2 0 0 (MQ below (va_Qi (fun (r : Int32) (u : KS) => post r u.1 ∧ u.2.1 = J ∧ u.2.2 = Q ∧ WF Z N T u.2.2) (Bw D D2 ad N T) A) [.ref (ad h0), .int x1, .int x2].toArray s 0 0 A) ad N T I_11 J Q 93 [(0, .ref (ad h0)), (1, .int x1), (2, .int x2), (4, .int x4_11), (5, .int x5_11)] [] := by
    intro I_11 x4_11 x5_11 hw hWF
    refine g_iload_n C dX8_isRow_93 rfl 2 rfl ?_
    refine g_if_eq (tgt := 109) C dX8_isRow_94 (by decide) (fun c12 => ?_) (fun c12 => ?_)
    · have hw := hw.1 c12
      refine g_iconst (v := (1 : Int32)) C dX8_isRow_109 (by decide) ?_
      exact g_zret C dX8_isRow_110 hr rfl ⟨hw, rfl, rfl, hWF⟩
    · have hw := hw.2 c12
      refine g_aload_n C dX8_isRow_97 rfl 0 rfl ?_
      refine g_getQ C dX8_isRow_98 ft_205 z0 (hWF.q z0 1 rfl) ?_
      have zz13 := hWF.r z0 1 rfl
      refine g_iload_n C dX8_isRow_101 rfl 1 rfl ?_
      refine g_iload C dX8_isRow_102 4 rfl ?_
      refine g_iload C dX8_isRow_104 3 rfl ?_
      refine g_callVv (As := [.int x1, .int x5_11, .int x4_11]) C dX8_isRow_106 ft_10 zz13 ft_206 ft_70 (met_X4_link l hWF zz13 hw) ⟨rfl, rfl, Nat.le_of_ble_eq_true rfl, Nat.le_of_ble_eq_true rfl⟩ ⟨Nat.zero_le _, Nat.zero_le _⟩ rfl rfl (Nat.le_of_ble_eq_true rfl) (fun I14 J14 Q14 hp => ?_)
      obtain ⟨hw, eJ, eQ, hWF⟩ := hp
      have eJ : J = J14 := Eq.symm eJ
      subst eJ
      have eQ : Q = Q14 := Eq.symm eQ
      subst eQ
      try dsimp only at hw hWF
      refine g_iconst (v := (1 : Int32)) C dX8_isRow_109 (by decide) ?_
      exact g_zret C dX8_isRow_110 hr rfl ⟨hw, rfl, rfl, hWF⟩
  have L11_u10 : ∀ (n11 : Nat) (I_1 : KI) (x3_1 : Int32) (x4_1 : Int32) (x5_1 : Int32) (x6_1 : Int32), wp_X8_isRow_L11 Q h0 x1 post (fun I_11 x4_11 x5_11 => ((x2 = 0 → post (1 : Int32) I_11) ∧ (¬ x2 = 0 → wp_X4_link I_11 Q (rq Q h0 1) x1 x5_11 x4_11 (fun I14 => post (1 : Int32) I14)))) n11 I_1 x3_1 x4_1 x5_1 x6_1 → WF Z N T Q → GG p l e ({ frames := 2, cells := 0, slots := 0, locals := 47 }) s m [.ref (ad h0), .int x1, .int x2].toArray below meth c 8 A D D2 0 0 (MQ below (va_Qi (fun (r : Int32) (u : KS) => post r u.1 ∧ u.2.1 = J ∧ u.2.2 = Q ∧ WF Z N T u.2.2) (Bw D D2 ad N T) A) [.ref (ad h0), .int x1, .int x2].toArray s 0 0 A) ad N T I_1 J Q 11 [(0, .ref (ad h0)), (1, .int x1), (2, .int x2), (3, .int x3_1), (4, .int x4_1), (5, .int x5_1), (6, .int x6_1)] [] := by
    intro n11
    induction n11 with
    | zero => intro I_1 x3_1 x4_1 x5_1 x6_1 hw; exact hw.elim
    | succ n11 ih_u10 =>
      intro I_1 x3_1 x4_1 x5_1 x6_1 hw hWF
      unfold wp_X8_isRow_L11 at hw
      refine g_iload C dX8_isRow_11 6 rfl ?_
      refine g_aload_n C dX8_isRow_13 rfl 0 rfl ?_
      refine g_getI C dX8_isRow_14 ft_201 z0 ?_
      refine g_icmp_ge (tgt := 93) C dX8_isRow_17 (by decide) (fun c16 => ?_) (fun c16 => ?_)
      · have hw := hw.1 c16
        refine g_sub [0, 1, 2, 4, 5] rfl ?_
        exact K93_u10 I_1 x4_1 x5_1 hw hWF
      · have hw := hw.2 c16
        refine g_aload_n C dX8_isRow_20 rfl 0 rfl ?_
        refine g_callVi (As := []) C dX8_isRow_21 ft_204 z0 ft_208 ft_209 (met_X8_figure l hWF z0 hw) ⟨rfl, rfl, Nat.le_of_ble_eq_true rfl, Nat.le_of_ble_eq_true rfl⟩ ⟨Nat.zero_le _, Nat.zero_le _⟩ rfl rfl (Nat.le_of_ble_eq_true rfl) (fun r17 I17 J17 Q17 hp => ?_)
        obtain ⟨hw, eJ, eQ, hWF⟩ := hp
        have eJ : J = J17 := Eq.symm eJ
        subst eJ
        have eQ : Q = Q17 := Eq.symm eQ
        subst eQ
        try dsimp only at hw hWF
        refine g_istore (lv' := [(7, .int r17), (0, .ref (ad h0)), (1, .int x1), (2, .int x2), (3, .int x3_1), (4, .int x4_1), (5, .int x5_1), (6, .int x6_1)]) C dX8_isRow_24 (by decide) rfl ?_
        refine g_iload C dX8_isRow_26 0 rfl ?_
        refine g_if_lt (tgt := 40) C dX8_isRow_28 (by decide) (fun c18 => ?_) (fun c18 => ?_)
        · have hw := hw.1 c18
          refine g_iconst (v := (0 : Int32)) C dX8_isRow_40 (by decide) ?_
          exact g_zret C dX8_isRow_41 hr rfl ⟨hw, rfl, rfl, hWF⟩
        · have hw := hw.2 c18
          refine g_iload_n C dX8_isRow_31 rfl 4 rfl ?_
          refine g_iload C dX8_isRow_32 0 rfl ?_
          refine g_callSNi (As := [.int x3_1, .int r17]) C dX8_isRow_34 ft_207 ft_17 (met_X10_has l hWF  hw) ⟨rfl, rfl, Nat.le_of_ble_eq_true rfl, Nat.le_of_ble_eq_true rfl⟩ ⟨Nat.zero_le _, Nat.zero_le _⟩ rfl rfl (Nat.le_of_ble_eq_true rfl) (fun r19 I19 J19 Q19 hp => ?_)
          obtain ⟨hw, eI, eJ, eQ, hWF⟩ := hp
          have eI : I17 = I19 := Eq.symm eI
          subst eI
          have eJ : J = J19 := Eq.symm eJ
          subst eJ
          have eQ : Q = Q19 := Eq.symm eQ
          subst eQ
          try dsimp only at hw hWF
          refine g_if_eq (tgt := 42) C dX8_isRow_37 (by decide) (fun c20 => ?_) (fun c20 => ?_)
          · have hw := hw.1 c20
            refine g_aload_n C dX8_isRow_42 rfl 1 rfl ?_
            refine g_dup C dX8_isRow_43 rfl ?_
            refine g_getI C dX8_isRow_44 ft_181 z0 ?_
            refine g_iconst (v := (1 : Int32)) C dX8_isRow_47 (by decide) ?_
            refine g_iadd C dX8_isRow_48 ?_
            refine g_putI C dX8_isRow_49 ft_182 z0 ?_
            refine g_iload_n C dX8_isRow_52 rfl 4 rfl ?_
            refine g_iconst (v := (1 : Int32)) C dX8_isRow_53 (by decide) ?_
            refine g_iload C dX8_isRow_54 0 rfl ?_
            refine g_ishl C dX8_isRow_56 ?_
            refine g_ior C dX8_isRow_57 ?_
            refine g_istore_n (lv' := [(3, .int (x3_1 ||| ((1 : Int32) <<< (r17 &&& 31)))), (7, .int r17), (0, .ref (ad h0)), (1, .int x1), (2, .int x2), (4, .int x4_1), (5, .int x5_1), (6, .int x6_1)]) C dX8_isRow_58 rfl (by decide) rfl ?_
            refine g_iload C dX8_isRow_59 7 rfl ?_
            refine g_if_ne (tgt := 71) C dX8_isRow_61 (by decide) (fun c21 => ?_) (fun c21 => ?_)
            · have hw := hw.1 c21
              refine g_aload_n C dX8_isRow_71 rfl 2 rfl ?_
              refine g_getQ C dX8_isRow_72 ft_205 z0 (hWF.q z0 1 rfl) ?_
              have zz22 := hWF.r z0 1 rfl
              refine g_iload_n C dX8_isRow_75 rfl 3 rfl ?_
              refine g_iload C dX8_isRow_76 6 rfl ?_
              refine g_iload C dX8_isRow_78 1 rfl ?_
              refine g_callVv (As := [.int x1, .int x5_1, .int r17]) C dX8_isRow_80 ft_10 zz22 ft_206 ft_70 (met_X4_link l hWF zz22 hw) ⟨rfl, rfl, Nat.le_of_ble_eq_true rfl, Nat.le_of_ble_eq_true rfl⟩ ⟨Nat.zero_le _, Nat.zero_le _⟩ rfl rfl (Nat.le_of_ble_eq_true rfl) (fun I23 J23 Q23 hp => ?_)
              obtain ⟨hw, eJ, eQ, hWF⟩ := hp
              have eJ : J = J23 := Eq.symm eJ
              subst eJ
              have eQ : Q = Q23 := Eq.symm eQ
              subst eQ
              try dsimp only at hw hWF
              refine g_iload C dX8_isRow_83 1 rfl ?_
              refine g_istore (lv' := [(5, .int r17), (3, .int (x3_1 ||| ((1 : Int32) <<< (r17 &&& 31)))), (7, .int r17), (0, .ref (ad h0)), (1, .int x1), (2, .int x2), (4, .int x4_1), (6, .int x6_1)]) C dX8_isRow_85 (by decide) rfl ?_
              refine g_iinc (v := (x6_1 + (1 : Int32))) (lv' := [(6, .int (x6_1 + (1 : Int32))), (5, .int r17), (3, .int (x3_1 ||| ((1 : Int32) <<< (r17 &&& 31)))), (7, .int r17), (0, .ref (ad h0)), (1, .int x1), (2, .int x2), (4, .int x4_1)]) C dX8_isRow_87 (q := 7) rfl rfl (by decide) rfl ?_
              refine g_goto C dX8_isRow_90 (tgt := 11) (by decide) ?_
              refine g_sub [4, 5, 6, 2, 7, 1, 0] rfl ?_
              exact ih_u10 I23 (x3_1 ||| ((1 : Int32) <<< (r17 &&& 31))) x4_1 r17 (x6_1 + (1 : Int32)) hw hWF
            · have hw := hw.2 c21
              refine g_iload C dX8_isRow_64 1 rfl ?_
              refine g_istore (lv' := [(4, .int r17), (3, .int (x3_1 ||| ((1 : Int32) <<< (r17 &&& 31)))), (7, .int r17), (0, .ref (ad h0)), (1, .int x1), (2, .int x2), (5, .int x5_1), (6, .int x6_1)]) C dX8_isRow_66 (by decide) rfl ?_
              refine g_goto C dX8_isRow_68 (tgt := 83) (by decide) ?_
              refine g_iload C dX8_isRow_83 2 rfl ?_
              refine g_istore (lv' := [(5, .int r17), (4, .int r17), (3, .int (x3_1 ||| ((1 : Int32) <<< (r17 &&& 31)))), (7, .int r17), (0, .ref (ad h0)), (1, .int x1), (2, .int x2), (6, .int x6_1)]) C dX8_isRow_85 (by decide) rfl ?_
              refine g_iinc (v := (x6_1 + (1 : Int32))) (lv' := [(6, .int (x6_1 + (1 : Int32))), (5, .int r17), (4, .int r17), (3, .int (x3_1 ||| ((1 : Int32) <<< (r17 &&& 31)))), (7, .int r17), (0, .ref (ad h0)), (1, .int x1), (2, .int x2)]) C dX8_isRow_87 (q := 7) rfl rfl (by decide) rfl ?_
              refine g_goto C dX8_isRow_90 (tgt := 11) (by decide) ?_
              refine g_sub [5, 6, 7, 3, 2, 1, 0] rfl ?_
              exact ih_u10 (sti I17 h0 3 ((I17 h0 3) + (1 : Int32))) (x3_1 ||| ((1 : Int32) <<< (r17 &&& 31))) r17 r17 (x6_1 + (1 : Int32)) hw hWF
          · have hw := hw.2 c20
            refine g_iconst (v := (0 : Int32)) C dX8_isRow_40 (by decide) ?_
            exact g_zret C dX8_isRow_41 hr rfl ⟨hw, rfl, rfl, hWF⟩
  obtain ⟨n_u10, hw⟩ := hw
  refine g_sub [4, 5, 6, 3, 2, 1, 0] rfl ?_
  exact L11_u10 n_u10 I (0 : Int32) (-1 : Int32) (-1 : Int32) (0 : Int32) hw hWF
def wp_X8_linkToAll_L2 (Qf_1 : KQ) (f0_1 : Nat) (f1_1 : Int32) (f2_1 : Int32) (post : KI → Prop) : Nat → KI → Int32 → Prop
  | 0, _, _ => False
  | n2 + 1, I_1, x3_1 => (((I_1 f0_1 4) ≤ x3_1 → post I_1) ∧ (¬ (I_1 f0_1 4) ≤ x3_1 → ((x3_1 = f2_1 → wp_X8_linkToAll_L2 Qf_1 f0_1 f1_1 f2_1 post n2 I_1 (x3_1 + (1 : Int32))) ∧ (¬ x3_1 = f2_1 → wp_X4_link I_1 Qf_1 (rq Qf_1 f0_1 1) f1_1 x3_1 f2_1 (fun I5 => wp_X8_linkToAll_L2 Qf_1 f0_1 f1_1 f2_1 post n2 I5 (x3_1 + (1 : Int32)))))))
def wp_X8_linkToAll (I : KI) (Q : KQ) (h0 : Nat) (x1 : Int32) (x2 : Int32) (post : KI → Prop) : Prop := (∃ q2, wp_X8_linkToAll_L2 Q h0 x1 x2 post q2 I (0 : Int32))
set_option maxHeartbeats 4000000 in
set_option maxRecDepth 100000 in
theorem met_X8_linkToAll {Z : Nat → Prop} {A : Nat → Prop} {D : va_G} {D2 : Nat → ClassId} {ad : Nat → Nat} {N : Nat} {T : Nat → Nat × Nat} (l : Launch) {I : KI} {J : KJ} {Q : KQ} {h0 : Nat} {x1 : Int32} {x2 : Int32} {post : KI → Prop} (hWF : WF Z N T Q) (z0 : OKr Z N T h0 (8, 0)) (hw : wp_X8_linkToAll I Q h0 x1 x2 post) : Met l yX8_linkToAll (.code yX8_linkToAll cX8_linkToAll 4 none :: BIG) ({ frames := 2, cells := 0, slots := 0, locals := 47 }) (Pr D D2 A ad N T I J Q [.ref (ad h0), .int x1, .int x2]) (va_Qv (fun (u : KS) => post u.1 ∧ u.2.1 = J ∧ u.2.2 = Q ∧ WF Z N T u.2.2) (Bw D D2 ad N T) A) 0 0 A := by
  refine Met_GG (lv0 := [(0, .ref (ad h0)), (1, .int x1), (2, .int x2)]) (by decide +kernel) [.ref (ad h0), .int x1, .int x2] (Nat.le_of_ble_eq_true rfl) rfl ?_
  intro p e s m below meth c C hr
  have C : CX p s m [.ref (ad h0), .int x1, .int x2].toArray meth c cX8_linkToAll 4 RX8 A D D2 := C
  unfold wp_X8_linkToAll at hw
  refine g_iconst (v := (0 : Int32)) C dX8_linkToAll_0 (by decide) ?_
  refine g_istore_n (lv' := [(3, .int (0 : Int32)), (0, .ref (ad h0)), (1, .int x1), (2, .int x2)]) C dX8_linkToAll_1 rfl (by decide) rfl ?_
  have L2_u6 : ∀ (n2 : Nat) (I_1 : KI) (x3_1 : Int32), wp_X8_linkToAll_L2 Q h0 x1 x2 post n2 I_1 x3_1 → WF Z N T Q → GG p l e ({ frames := 2, cells := 0, slots := 0, locals := 47 }) s m [.ref (ad h0), .int x1, .int x2].toArray below meth c 4 A D D2 0 0 (MQ below (va_Qv (fun (u : KS) => post u.1 ∧ u.2.1 = J ∧ u.2.2 = Q ∧ WF Z N T u.2.2) (Bw D D2 ad N T) A) [.ref (ad h0), .int x1, .int x2].toArray s 0 0 A) ad N T I_1 J Q 2 [(0, .ref (ad h0)), (1, .int x1), (2, .int x2), (3, .int x3_1)] [] := by
    intro n2
    induction n2 with
    | zero => intro I_1 x3_1 hw; exact hw.elim
    | succ n2 ih_u6 =>
      intro I_1 x3_1 hw hWF
      unfold wp_X8_linkToAll_L2 at hw
      refine g_iload_n C dX8_linkToAll_2 rfl 3 rfl ?_
      refine g_aload_n C dX8_linkToAll_3 rfl 0 rfl ?_
      refine g_getI C dX8_linkToAll_4 ft_201 z0 ?_
      refine g_icmp_ge (tgt := 31) C dX8_linkToAll_7 (by decide) (fun c8 => ?_) (fun c8 => ?_)
      · have hw := hw.1 c8
        exact g_vret C dX8_linkToAll_31 hr ⟨hw, rfl, rfl, hWF⟩
      · have hw := hw.2 c8
        refine g_iload_n C dX8_linkToAll_10 rfl 3 rfl ?_
        refine g_iload_n C dX8_linkToAll_11 rfl 2 rfl ?_
        refine g_icmp_eq (tgt := 25) C dX8_linkToAll_12 (by decide) (fun c9 => ?_) (fun c9 => ?_)
        · have hw := hw.1 c9
          refine g_iinc (v := (x3_1 + (1 : Int32))) (lv' := [(3, .int (x3_1 + (1 : Int32))), (0, .ref (ad h0)), (1, .int x1), (2, .int x2)]) C dX8_linkToAll_25 (q := 3) rfl rfl (by decide) rfl ?_
          refine g_goto C dX8_linkToAll_28 (tgt := 2) (by decide) ?_
          refine g_sub [1, 2, 3, 0] rfl ?_
          exact ih_u6 I_1 (x3_1 + (1 : Int32)) hw hWF
        · have hw := hw.2 c9
          refine g_aload_n C dX8_linkToAll_15 rfl 0 rfl ?_
          refine g_getQ C dX8_linkToAll_16 ft_205 z0 (hWF.q z0 1 rfl) ?_
          have zz10 := hWF.r z0 1 rfl
          refine g_iload_n C dX8_linkToAll_19 rfl 1 rfl ?_
          refine g_iload_n C dX8_linkToAll_20 rfl 3 rfl ?_
          refine g_iload_n C dX8_linkToAll_21 rfl 2 rfl ?_
          refine g_callVv (As := [.int x1, .int x3_1, .int x2]) C dX8_linkToAll_22 ft_10 zz10 ft_206 ft_70 (met_X4_link l hWF zz10 hw) ⟨rfl, rfl, Nat.le_of_ble_eq_true rfl, Nat.le_of_ble_eq_true rfl⟩ ⟨Nat.zero_le _, Nat.zero_le _⟩ rfl rfl (Nat.le_of_ble_eq_true rfl) (fun I11 J11 Q11 hp => ?_)
          obtain ⟨hw, eJ, eQ, hWF⟩ := hp
          have eJ : J = J11 := Eq.symm eJ
          subst eJ
          have eQ : Q = Q11 := Eq.symm eQ
          subst eQ
          try dsimp only at hw hWF
          refine g_iinc (v := (x3_1 + (1 : Int32))) (lv' := [(3, .int (x3_1 + (1 : Int32))), (0, .ref (ad h0)), (1, .int x1), (2, .int x2)]) C dX8_linkToAll_25 (q := 3) rfl rfl (by decide) rfl ?_
          refine g_goto C dX8_linkToAll_28 (tgt := 2) (by decide) ?_
          refine g_sub [1, 2, 3, 0] rfl ?_
          exact ih_u6 I11 (x3_1 + (1 : Int32)) hw hWF
  obtain ⟨n_u6, hw⟩ := hw
  refine g_sub [1, 2, 3, 0] rfl ?_
  exact L2_u6 n_u6 I (0 : Int32) hw hWF
def wp_X8_isStar (I : KI) (Q : KQ) (h0 : Nat) (x1 : Int32) (post : Int32 → KI → Prop) : Prop := wp_X8_figure I Q h0 (fun r1 I1 => ((0 ≤ r1 → wp_X8_linkToAll (sti I1 h0 3 ((I1 h0 3) + (1 : Int32))) Q h0 x1 r1 (fun I3 => post (1 : Int32) I3)) ∧ (¬ 0 ≤ r1 → post (0 : Int32) I1)))
set_option maxHeartbeats 4000000 in
set_option maxRecDepth 100000 in
theorem met_X8_isStar {Z : Nat → Prop} {A : Nat → Prop} {D : va_G} {D2 : Nat → ClassId} {ad : Nat → Nat} {N : Nat} {T : Nat → Nat × Nat} (l : Launch) {I : KI} {J : KJ} {Q : KQ} {h0 : Nat} {x1 : Int32} {post : Int32 → KI → Prop} (hWF : WF Z N T Q) (z0 : OKr Z N T h0 (8, 0)) (hw : wp_X8_isStar I Q h0 x1 post) : Met l yX8_isStar (.code yX8_isStar cX8_isStar 3 (some .boolean) :: BIG) ({ frames := 3, cells := 0, slots := 0, locals := 70 }) (Pr D D2 A ad N T I J Q [.ref (ad h0), .int x1]) (va_Qi (fun (r : Int32) (u : KS) => post r u.1 ∧ u.2.1 = J ∧ u.2.2 = Q ∧ WF Z N T u.2.2) (Bw D D2 ad N T) A) 0 0 A := by
  refine Met_GG (lv0 := [(0, .ref (ad h0)), (1, .int x1)]) (by decide +kernel) [.ref (ad h0), .int x1] (Nat.le_of_ble_eq_true rfl) rfl ?_
  intro p e s m below meth c C hr
  have C : CX p s m [.ref (ad h0), .int x1].toArray meth c cX8_isStar 3 RX8 A D D2 := C
  unfold wp_X8_isStar at hw
  refine g_aload_n C dX8_isStar_0 rfl 0 rfl ?_
  refine g_callVi (As := []) C dX8_isStar_1 ft_204 z0 ft_208 ft_209 (met_X8_figure l hWF z0 hw) ⟨rfl, rfl, Nat.le_of_ble_eq_true rfl, Nat.le_of_ble_eq_true rfl⟩ ⟨Nat.zero_le _, Nat.zero_le _⟩ rfl rfl (Nat.le_of_ble_eq_true rfl) (fun r1 I1 J1 Q1 hp => ?_)
  obtain ⟨hw, eJ, eQ, hWF⟩ := hp
  have eJ : J = J1 := Eq.symm eJ
  subst eJ
  have eQ : Q = Q1 := Eq.symm eQ
  subst eQ
  try dsimp only at hw hWF
  refine g_istore_n (lv' := [(2, .int r1), (0, .ref (ad h0)), (1, .int x1)]) C dX8_isStar_4 rfl (by decide) rfl ?_
  refine g_iload_n C dX8_isStar_5 rfl 0 rfl ?_
  refine g_if_ge (tgt := 11) C dX8_isStar_6 (by decide) (fun c2 => ?_) (fun c2 => ?_)
  · have hw := hw.1 c2
    refine g_aload_n C dX8_isStar_11 rfl 1 rfl ?_
    refine g_dup C dX8_isStar_12 rfl ?_
    refine g_getI C dX8_isStar_13 ft_181 z0 ?_
    refine g_iconst (v := (1 : Int32)) C dX8_isStar_16 (by decide) ?_
    refine g_iadd C dX8_isStar_17 ?_
    refine g_putI C dX8_isStar_18 ft_182 z0 ?_
    refine g_aload_n C dX8_isStar_21 rfl 1 rfl ?_
    refine g_iload_n C dX8_isStar_22 rfl 2 rfl ?_
    refine g_iload_n C dX8_isStar_23 rfl 0 rfl ?_
    refine g_callVv (As := [.int x1, .int r1]) C dX8_isStar_24 ft_204 z0 ft_210 ft_211 (met_X8_linkToAll l hWF z0 hw) ⟨rfl, rfl, Nat.le_of_ble_eq_true rfl, Nat.le_of_ble_eq_true rfl⟩ ⟨Nat.zero_le _, Nat.zero_le _⟩ rfl rfl (Nat.le_of_ble_eq_true rfl) (fun I3 J3 Q3 hp => ?_)
    obtain ⟨hw, eJ, eQ, hWF⟩ := hp
    have eJ : J = J3 := Eq.symm eJ
    subst eJ
    have eQ : Q = Q3 := Eq.symm eQ
    subst eQ
    try dsimp only at hw hWF
    refine g_iconst (v := (1 : Int32)) C dX8_isStar_27 (by decide) ?_
    exact g_zret C dX8_isStar_28 hr rfl ⟨hw, rfl, rfl, hWF⟩
  · have hw := hw.2 c2
    refine g_iconst (v := (0 : Int32)) C dX8_isStar_9 (by decide) ?_
    exact g_zret C dX8_isStar_10 hr rfl ⟨hw, rfl, rfl, hWF⟩
