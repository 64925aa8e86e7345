def wp_X8_isLink (I : KI) (Q : KQ) (h0 : Nat) (x1 : Int32) (post : Int32 → KI → Prop) : Prop := wp_X8_figure I Q h0 (fun r1 I1 => ((0 ≤ r1 → wp_X8_ahead (sti I1 h0 3 ((I1 h0 3) + (1 : Int32))) Q h0 (fun r3 I3 => ((r3 = (45 : Int32) → wp_X8_figure (sti I3 h0 3 ((I3 h0 3) + (1 : Int32))) Q h0 (fun r5 I5 => ((r5 < 0 → post (0 : Int32) I5) ∧ (¬ r5 < 0 → ((r1 = r5 → post (0 : Int32) I5) ∧ (¬ r1 = r5 → wp_X4_of I5 Q (rq Q h0 1) x1 r1 (fun r9 => wp_X10_has r9 r5 (fun r10 => ((r10 = 0 → wp_X4_link (sti I5 h0 3 ((I5 h0 3) + (1 : Int32))) Q (rq Q h0 1) x1 r1 r5 (fun I13 => post (1 : Int32) I13)) ∧ (¬ r10 = 0 → post (0 : Int32) I5)))))))))) ∧ (¬ r3 = (45 : Int32) → post (0 : Int32) I3)))) ∧ (¬ 0 ≤ r1 → post (0 : Int32) I1)))
set_option maxHeartbeats 4000000 in
set_option maxRecDepth 100000 in
theorem met_X8_isLink {Z : Nat → Prop} {A : Nat → Prop} {D : va_G} {D2 : Nat → ClassId} {ad : Nat → Nat} {N : Nat} {T : Nat → Nat × Nat} (l : Launch) {I : KI} {J : KJ} {Q : KQ} {h0 : Nat} {x1 : Int32} {post : Int32 → KI → Prop} (hWF : WF Z N T Q) (z0 : OKr Z N T h0 (8, 0)) (hw : wp_X8_isLink I Q h0 x1 post) : Met l yX8_isLink (.code yX8_isLink cX8_isLink 4 (some .boolean) :: BIG) ({ frames := 2, cells := 0, slots := 0, locals := 47 }) (Pr D D2 A ad N T I J Q [.ref (ad h0), .int x1]) (va_Qi (fun (r : Int32) (u : KS) => post r u.1 ∧ u.2.1 = J ∧ u.2.2 = Q ∧ WF Z N T u.2.2) (Bw D D2 ad N T) A) 0 0 A := by
  refine Met_GG (lv0 := [(0, .ref (ad h0)), (1, .int x1)]) (by decide +kernel) [.ref (ad h0), .int x1] (Nat.le_of_ble_eq_true rfl) rfl ?_
  intro p e s m below meth c C hr
  have C : CX p s m [.ref (ad h0), .int x1].toArray meth c cX8_isLink 4 RX8 A D D2 := C
  unfold wp_X8_isLink at hw
  refine g_aload_n C dX8_isLink_0 rfl 0 rfl ?_
  refine g_callVi (As := []) C dX8_isLink_1 ft_204 z0 ft_208 ft_209 (met_X8_figure l hWF z0 hw) ⟨rfl, rfl, Nat.le_of_ble_eq_true rfl, Nat.le_of_ble_eq_true rfl⟩ ⟨Nat.zero_le _, Nat.zero_le _⟩ rfl rfl (Nat.le_of_ble_eq_true rfl) (fun r1 I1 J1 Q1 hp => ?_)
  obtain ⟨hw, eJ, eQ, hWF⟩ := hp
  have eJ : J = J1 := Eq.symm eJ
  subst eJ
  have eQ : Q = Q1 := Eq.symm eQ
  subst eQ
  try dsimp only at hw hWF
  refine g_istore_n (lv' := [(2, .int r1), (0, .ref (ad h0)), (1, .int x1)]) C dX8_isLink_4 rfl (by decide) rfl ?_
  refine g_iload_n C dX8_isLink_5 rfl 0 rfl ?_
  refine g_if_ge (tgt := 11) C dX8_isLink_6 (by decide) (fun c2 => ?_) (fun c2 => ?_)
  · have hw := hw.1 c2
    refine g_aload_n C dX8_isLink_11 rfl 1 rfl ?_
    refine g_dup C dX8_isLink_12 rfl ?_
    refine g_getI C dX8_isLink_13 ft_181 z0 ?_
    refine g_iconst (v := (1 : Int32)) C dX8_isLink_16 (by decide) ?_
    refine g_iadd C dX8_isLink_17 ?_
    refine g_putI C dX8_isLink_18 ft_182 z0 ?_
    refine g_aload_n C dX8_isLink_21 rfl 1 rfl ?_
    refine g_callVi (As := []) C dX8_isLink_22 ft_204 z0 ft_202 ft_203 (met_X8_ahead l hWF z0 hw) ⟨rfl, rfl, Nat.le_of_ble_eq_true rfl, Nat.le_of_ble_eq_true rfl⟩ ⟨Nat.zero_le _, Nat.zero_le _⟩ rfl rfl (Nat.le_of_ble_eq_true rfl) (fun r3 I3 J3 Q3 hp => ?_)
    obtain ⟨hw, eJ, eQ, hWF⟩ := hp
    have eJ : J = J3 := Eq.symm eJ
    subst eJ
    have eQ : Q = Q3 := Eq.symm eQ
    subst eQ
    try dsimp only at hw hWF
    refine g_bipush (v := (45 : Int32)) C dX8_isLink_25 (by decide) ?_
    refine g_icmp_eq (tgt := 32) C dX8_isLink_27 (by decide) (fun c4 => ?_) (fun c4 => ?_)
    · have hw := hw.1 c4
      refine g_aload_n C dX8_isLink_32 rfl 1 rfl ?_
      refine g_dup C dX8_isLink_33 rfl ?_
      refine g_getI C dX8_isLink_34 ft_181 z0 ?_
      refine g_iconst (v := (1 : Int32)) C dX8_isLink_37 (by decide) ?_
      refine g_iadd C dX8_isLink_38 ?_
      refine g_putI C dX8_isLink_39 ft_182 z0 ?_
      refine g_aload_n C dX8_isLink_42 rfl 1 rfl ?_
      refine g_callVi (As := []) C dX8_isLink_43 ft_204 z0 ft_208 ft_209 (met_X8_figure l hWF z0 hw) ⟨rfl, rfl, Nat.le_of_ble_eq_true rfl, Nat.le_of_ble_eq_true rfl⟩ ⟨Nat.zero_le _, Nat.zero_le _⟩ rfl rfl (Nat.le_of_ble_eq_true rfl) (fun r5 I5 J5 Q5 hp => ?_)
      obtain ⟨hw, eJ, eQ, hWF⟩ := hp
      have eJ : J = J5 := Eq.symm eJ
      subst eJ
      have eQ : Q = Q5 := Eq.symm eQ
      subst eQ
      try dsimp only at hw hWF
      refine g_istore_n (lv' := [(3, .int r5), (2, .int r1), (0, .ref (ad h0)), (1, .int x1)]) C dX8_isLink_46 rfl (by decide) rfl ?_
      refine g_iload_n C dX8_isLink_47 rfl 0 rfl ?_
      refine g_if_lt (tgt := 72) C dX8_isLink_48 (by decide) (fun c6 => ?_) (fun c6 => ?_)
      · have hw := hw.1 c6
        refine g_iconst (v := (0 : Int32)) C dX8_isLink_72 (by decide) ?_
        exact g_zret C dX8_isLink_73 hr rfl ⟨hw, rfl, rfl, hWF⟩
      · have hw := hw.2 c6
        refine g_iload_n C dX8_isLink_51 rfl 1 rfl ?_
        refine g_iload_n C dX8_isLink_52 rfl 0 rfl ?_
        refine g_icmp_eq (tgt := 72) C dX8_isLink_53 (by decide) (fun c7 => ?_) (fun c7 => ?_)
        · have hw := hw.1 c7
          refine g_iconst (v := (0 : Int32)) C dX8_isLink_72 (by decide) ?_
          exact g_zret C dX8_isLink_73 hr rfl ⟨hw, rfl, rfl, hWF⟩
        · have hw := hw.2 c7
          refine g_aload_n C dX8_isLink_56 rfl 2 rfl ?_
          refine g_getQ C dX8_isLink_57 ft_205 z0 (hWF.q z0 1 rfl) ?_
          have zz8 := hWF.r z0 1 rfl
          refine g_iload_n C dX8_isLink_60 rfl 3 rfl ?_
          refine g_iload_n C dX8_isLink_61 rfl 1 rfl ?_
          refine g_callVi (As := [.int x1, .int r1]) C dX8_isLink_62 ft_10 zz8 ft_212 ft_9 (met_X4_of l hWF zz8 hw) ⟨rfl, rfl, Nat.le_of_ble_eq_true rfl, Nat.le_of_ble_eq_true rfl⟩ ⟨Nat.zero_le _, Nat.zero_le _⟩ rfl rfl (Nat.le_of_ble_eq_true rfl) (fun r9 I9 J9 Q9 hp => ?_)
          obtain ⟨hw, eI, eJ, eQ, hWF⟩ := hp
          have eI : I5 = I9 := Eq.symm eI
          subst eI
          have eJ : J = J9 := Eq.symm eJ
          subst eJ
          have eQ : Q = Q9 := Eq.symm eQ
          subst eQ
          try dsimp only at hw hWF
          refine g_iload_n C dX8_isLink_65 rfl 0 rfl ?_
          refine g_callSNi (As := [.int r9, .int r5]) C dX8_isLink_66 ft_207 ft_17 (met_X10_has l hWF  hw) ⟨rfl, rfl, Nat.le_of_ble_eq_true rfl, Nat.le_of_ble_eq_true rfl⟩ ⟨Nat.zero_le _, Nat.zero_le _⟩ rfl rfl (Nat.le_of_ble_eq_true rfl) (fun r10 I10 J10 Q10 hp => ?_)
          obtain ⟨hw, eI, eJ, eQ, hWF⟩ := hp
          have eI : I5 = I10 := Eq.symm eI
          subst eI
          have eJ : J = J10 := Eq.symm eJ
          subst eJ
          have eQ : Q = Q10 := Eq.symm eQ
          subst eQ
          try dsimp only at hw hWF
          refine g_if_eq (tgt := 74) C dX8_isLink_69 (by decide) (fun c11 => ?_) (fun c11 => ?_)
          · have hw := hw.1 c11
            refine g_aload_n C dX8_isLink_74 rfl 2 rfl ?_
            refine g_dup C dX8_isLink_75 rfl ?_
            refine g_getI C dX8_isLink_76 ft_181 z0 ?_
            refine g_iconst (v := (1 : Int32)) C dX8_isLink_79 (by decide) ?_
            refine g_iadd C dX8_isLink_80 ?_
            refine g_putI C dX8_isLink_81 ft_182 z0 ?_
            refine g_aload_n C dX8_isLink_84 rfl 2 rfl ?_
            refine g_getQ C dX8_isLink_85 ft_205 z0 (hWF.q z0 1 rfl) ?_
            have zz12 := hWF.r z0 1 rfl
            refine g_iload_n C dX8_isLink_88 rfl 3 rfl ?_
            refine g_iload_n C dX8_isLink_89 rfl 1 rfl ?_
            refine g_iload_n C dX8_isLink_90 rfl 0 rfl ?_
            refine g_callVv (As := [.int x1, .int r1, .int r5]) C dX8_isLink_91 ft_10 zz12 ft_206 ft_70 (met_X4_link l hWF zz12 hw) ⟨rfl, rfl, Nat.le_of_ble_eq_true rfl, Nat.le_of_ble_eq_true rfl⟩ ⟨Nat.zero_le _, Nat.zero_le _⟩ rfl rfl (Nat.le_of_ble_eq_true rfl) (fun I13 J13 Q13 hp => ?_)
            obtain ⟨hw, eJ, eQ, hWF⟩ := hp
            have eJ : J = J13 := Eq.symm eJ
            subst eJ
            have eQ : Q = Q13 := Eq.symm eQ
            subst eQ
            try dsimp only at hw hWF
            refine g_iconst (v := (1 : Int32)) C dX8_isLink_94 (by decide) ?_
            exact g_zret C dX8_isLink_95 hr rfl ⟨hw, rfl, rfl, hWF⟩
          · have hw := hw.2 c11
            refine g_iconst (v := (0 : Int32)) C dX8_isLink_72 (by decide) ?_
            exact g_zret C dX8_isLink_73 hr rfl ⟨hw, rfl, rfl, hWF⟩
    · have hw := hw.2 c4
      refine g_iconst (v := (0 : Int32)) C dX8_isLink_30 (by decide) ?_
      exact g_zret C dX8_isLink_31 hr rfl ⟨hw, rfl, rfl, hWF⟩
  · have hw := hw.2 c2
    refine g_iconst (v := (0 : Int32)) C dX8_isLink_9 (by decide) ?_
    exact g_zret C dX8_isLink_10 hr rfl ⟨hw, rfl, rfl, hWF⟩
def wp_X8_isLinks_L2 (Qf_1 : KQ) (f0_1 : Nat) (f1_1 : Int32) (post : Int32 → KI → Prop) (k27 : KI → Prop) : Nat → KI → Int32 → Prop
  | 0, _, _ => False
  | n2 + 1, I_1, x2_1 => (((90 : Int32) ≤ x2_1 → post (0 : Int32) I_1) ∧ (¬ (90 : Int32) ≤ x2_1 → wp_X8_isLink I_1 Qf_1 f0_1 f1_1 (fun r3 I3 => ((¬ r3 = 0 → wp_X8_ahead I3 Qf_1 f0_1 (fun r5 I5 => ((r5 = (44 : Int32) → wp_X8_isLinks_L2 Qf_1 f0_1 f1_1 post k27 n2 (sti I5 f0_1 3 ((I5 f0_1 3) + (1 : Int32))) (x2_1 + (1 : Int32))) ∧ (¬ r5 = (44 : Int32) → k27 I5)))) ∧ (r3 = 0 → post (0 : Int32) I3)))))
def wp_X8_isLinks (I : KI) (Q : KQ) (h0 : Nat) (x1 : Int32) (post : Int32 → KI → Prop) : Prop := (∃ q2, wp_X8_isLinks_L2 Q h0 x1 post (fun I_8 => wp_X4_joins I_8 Q (rq Q h0 1) x1 (I_8 h0 4) (fun r10 => ((r10 = 0 ∨ r10 = 1) ∧ post r10 I_8))) q2 I (0 : Int32))
set_option maxHeartbeats 4000000 in
set_option maxRecDepth 100000 in
theorem met_X8_isLinks {Z : Nat → Prop} {A : Nat → Prop} {D : va_G} {D2 : Nat → ClassId} {ad : Nat → Nat} {N : Nat} {T : Nat → Nat × Nat} (l : Launch) {I : KI} {J : KJ} {Q : KQ} {h0 : Nat} {x1 : Int32} {post : Int32 → KI → Prop} (hWF : WF Z N T Q) (z0 : OKr Z N T h0 (8, 0)) (hw : wp_X8_isLinks I Q h0 x1 post) : Met l yX8_isLinks (.code yX8_isLinks cX8_isLinks 3 (some .boolean) :: BIG) ({ frames := 3, cells := 0, slots := 0, locals := 70 }) (Pr D D2 A ad N T I J Q [.ref (ad h0), .int x1]) (va_Qi (fun (r : Int32) (u : KS) => post r u.1 ∧ u.2.1 = J ∧ u.2.2 = Q ∧ WF Z N T u.2.2) (Bw D D2 ad N T) A) 0 0 A := by
  refine Met_GG (lv0 := [(0, .ref (ad h0)), (1, .int x1)]) (by decide +kernel) [.ref (ad h0), .int x1] (Nat.le_of_ble_eq_true rfl) rfl ?_
  intro p e s m below meth c C hr
  have C : CX p s m [.ref (ad h0), .int x1].toArray meth c cX8_isLinks 3 RX8 A D D2 := C
  unfold wp_X8_isLinks at hw
  refine g_iconst (v := (0 : Int32)) C dX8_isLinks_0 (by decide) ?_
  refine g_istore_n (lv' := [(2, .int (0 : Int32)), (0, .ref (ad h0)), (1, .int x1)]) C dX8_isLinks_1 rfl (by decide) rfl ?_
  have K27_u7 : ∀ (I_8 : KI), (wp_X4_joins I_8 Q (rq Q h0 1) x1 (I_8 h0 4) (fun r10 => ((r10 = 0 ∨ r10 = 1) ∧ post r10 I_8))) → WF Z N T Q → GG p l e ({ frames := 3, cells := 0, slots := 0, locals := 70 }) s m [.ref (ad h0), .int x1].toArray below meth c 3 A D D2 0 0 (MQ below (va_Qi (fun (r : Int32) (u : KS) => post r u.1 ∧ u.2.1 = J ∧ u.2.2 = Q ∧ WF Z N T u.2.2) (Bw D D2 ad N T) A) [.ref (ad h0), .int x1].toArray s 0 0 A) ad N T I_8 J Q 27 [(0, .ref (ad h0)), (1, .int x1)] [] := by
    intro I_8 hw hWF
    refine g_aload_n C dX8_isLinks_27 rfl 0 rfl ?_
    refine g_getQ C dX8_isLinks_28 ft_205 z0 (hWF.q z0 1 rfl) ?_
    have zz9 := hWF.r z0 1 rfl
    refine g_iload_n C dX8_isLinks_31 rfl 1 rfl ?_
    refine g_aload_n C dX8_isLinks_32 rfl 0 rfl ?_
    refine g_getI C dX8_isLinks_33 ft_201 z0 ?_
    refine g_callVi (As := [.int x1, .int (I_8 h0 4)]) C dX8_isLinks_36 ft_10 zz9 ft_215 ft_216 (met_X4_joins l hWF zz9 hw) ⟨rfl, rfl, Nat.le_of_ble_eq_true rfl, Nat.le_of_ble_eq_true rfl⟩ ⟨Nat.zero_le _, Nat.zero_le _⟩ rfl rfl (Nat.le_of_ble_eq_true rfl) (fun r10 I10 J10 Q10 hp => ?_)
    obtain ⟨hw, eI, eJ, eQ, hWF⟩ := hp
    have eI : I_8 = I10 := Eq.symm eI
    subst eI
    have eJ : J = J10 := Eq.symm eJ
    subst eJ
    have eQ : Q = Q10 := Eq.symm eQ
    subst eQ
    try dsimp only at hw hWF
    exact g_zret C dX8_isLinks_39 hr (nar_b hw.1) ⟨hw.2, rfl, rfl, hWF⟩
  have L2_u7 : ∀ (n2 : Nat) (I_1 : KI) (x2_1 : Int32), wp_X8_isLinks_L2 Q h0 x1 post (fun I_8 => wp_X4_joins I_8 Q (rq Q h0 1) x1 (I_8 h0 4) (fun r10 => ((r10 = 0 ∨ r10 = 1) ∧ post r10 I_8))) n2 I_1 x2_1 → WF Z N T Q → GG p l e ({ frames := 3, cells := 0, slots := 0, locals := 70 }) s m [.ref (ad h0), .int x1].toArray below meth c 3 A D D2 0 0 (MQ below (va_Qi (fun (r : Int32) (u : KS) => post r u.1 ∧ u.2.1 = J ∧ u.2.2 = Q ∧ WF Z N T u.2.2) (Bw D D2 ad N T) A) [.ref (ad h0), .int x1].toArray s 0 0 A) ad N T I_1 J Q 2 [(0, .ref (ad h0)), (1, .int x1), (2, .int x2_1)] [] := by
    intro n2
    induction n2 with
    | zero => intro I_1 x2_1 hw; exact hw.elim
    | succ n2 ih_u7 =>
      intro I_1 x2_1 hw hWF
      unfold wp_X8_isLinks_L2 at hw
      refine g_iload_n C dX8_isLinks_2 rfl 2 rfl ?_
      refine g_bipush (v := (90 : Int32)) C dX8_isLinks_3 (by decide) ?_
      refine g_icmp_ge (tgt := 56) C dX8_isLinks_5 (by decide) (fun c12 => ?_) (fun c12 => ?_)
      · have hw := hw.1 c12
        refine g_iconst (v := (0 : Int32)) C dX8_isLinks_56 (by decide) ?_
        exact g_zret C dX8_isLinks_57 hr rfl ⟨hw, rfl, rfl, hWF⟩
      · have hw := hw.2 c12
        refine g_aload_n C dX8_isLinks_8 rfl 0 rfl ?_
        refine g_iload_n C dX8_isLinks_9 rfl 1 rfl ?_
        refine g_callVi (As := [.int x1]) C dX8_isLinks_10 ft_204 z0 ft_213 ft_214 (met_X8_isLink l hWF z0 hw) ⟨rfl, rfl, Nat.le_of_ble_eq_true rfl, Nat.le_of_ble_eq_true rfl⟩ ⟨Nat.zero_le _, Nat.zero_le _⟩ rfl rfl (Nat.le_of_ble_eq_true rfl) (fun r13 I13 J13 Q13 hp => ?_)
        obtain ⟨hw, eJ, eQ, hWF⟩ := hp
        have eJ : J = J13 := Eq.symm eJ
        subst eJ
        have eQ : Q = Q13 := Eq.symm eQ
        subst eQ
        try dsimp only at hw hWF
        refine g_if_ne (tgt := 18) C dX8_isLinks_13 (by decide) (fun c14 => ?_) (fun c14 => ?_)
        · have hw := hw.1 c14
          refine g_aload_n C dX8_isLinks_18 rfl 0 rfl ?_
          refine g_callVi (As := []) C dX8_isLinks_19 ft_204 z0 ft_202 ft_203 (met_X8_ahead l hWF z0 hw) ⟨rfl, rfl, Nat.le_of_ble_eq_true rfl, Nat.le_of_ble_eq_true rfl⟩ ⟨Nat.zero_le _, Nat.zero_le _⟩ rfl rfl (Nat.le_of_ble_eq_true rfl) (fun r15 I15 J15 Q15 hp => ?_)
          obtain ⟨hw, eJ, eQ, hWF⟩ := hp
          have eJ : J = J15 := Eq.symm eJ
          subst eJ
          have eQ : Q = Q15 := Eq.symm eQ
          subst eQ
          try dsimp only at hw hWF
          refine g_bipush (v := (44 : Int32)) C dX8_isLinks_22 (by decide) ?_
          refine g_icmp_eq (tgt := 40) C dX8_isLinks_24 (by decide) (fun c16 => ?_) (fun c16 => ?_)
          · have hw := hw.1 c16
            refine g_aload_n C dX8_isLinks_40 rfl 0 rfl ?_
            refine g_dup C dX8_isLinks_41 rfl ?_
            refine g_getI C dX8_isLinks_42 ft_181 z0 ?_
            refine g_iconst (v := (1 : Int32)) C dX8_isLinks_45 (by decide) ?_
            refine g_iadd C dX8_isLinks_46 ?_
            refine g_putI C dX8_isLinks_47 ft_182 z0 ?_
            refine g_iinc (v := (x2_1 + (1 : Int32))) (lv' := [(2, .int (x2_1 + (1 : Int32))), (0, .ref (ad h0)), (1, .int x1)]) C dX8_isLinks_50 (q := 2) rfl rfl (by decide) rfl ?_
            refine g_goto C dX8_isLinks_53 (tgt := 2) (by decide) ?_
            refine g_sub [1, 2, 0] rfl ?_
            exact ih_u7 (sti I15 h0 3 ((I15 h0 3) + (1 : Int32))) (x2_1 + (1 : Int32)) hw hWF
          · have hw := hw.2 c16
            refine g_sub [0, 1] rfl ?_
            exact K27_u7 I15 hw hWF
        · have hw := hw.2 c14
          refine g_iconst (v := (0 : Int32)) C dX8_isLinks_16 (by decide) ?_
          exact g_zret C dX8_isLinks_17 hr rfl ⟨hw, rfl, rfl, hWF⟩
  obtain ⟨n_u7, hw⟩ := hw
  refine g_sub [1, 2, 0] rfl ?_
  exact L2_u7 n_u7 I (0 : Int32) hw hWF
def wp_X8_isNet_L10 (Qf_2 : KQ) (f0_2 : Nat) (k62 : KI → Prop) : Nat → KI → Prop
  | 0, _ => False
  | n10 + 1, I_2 => (((I_2 f0_2 2) ≤ (I_2 f0_2 3) → k62 I_2) ∧ (¬ (I_2 f0_2 2) ≤ (I_2 f0_2 3) → (vp_in (I_2 f0_2 3) 90 ∧ (((I_2 (rq Qf_2 f0_2 0) (I_2 f0_2 3).toNatClampNeg) < (97 : Int32) → k62 I_2) ∧ (¬ (I_2 (rq Qf_2 f0_2 0) (I_2 f0_2 3).toNatClampNeg) < (97 : Int32) → (vp_in (I_2 f0_2 3) 90 ∧ (((122 : Int32) < (I_2 (rq Qf_2 f0_2 0) (I_2 f0_2 3).toNatClampNeg) → k62 I_2) ∧ (¬ (122 : Int32) < (I_2 (rq Qf_2 f0_2 0) (I_2 f0_2 3).toNatClampNeg) → wp_X8_isNet_L10 Qf_2 f0_2 k62 n10 (sti I_2 f0_2 3 ((I_2 f0_2 3) + (1 : Int32)))))))))))
def wp_X8_isNet_L140 (Qf_20 : KQ) (f0_20 : Nat) (f1_20 : Int32) (post : Int32 → KI → Prop) : Nat → KI → Int32 → Prop
  | 0, _, _ => False
  | n140 + 1, I_20, x3_20 => (((I_20 f0_20 4) ≤ x3_20 → post (1 : Int32) I_20) ∧ (¬ (I_20 f0_20 4) ≤ x3_20 → wp_X8_linkToAll I_20 Qf_20 f0_20 f1_20 x3_20 (fun I22 => wp_X8_isNet_L140 Qf_20 f0_20 f1_20 post n140 I22 (x3_20 + (1 : Int32)))))
def wp_X8_isNet (I : KI) (Q : KQ) (h0 : Nat) (x1 : Int32) (post : Int32 → KI → Prop) : Prop := wp_X8_ahead I Q h0 (fun r1 I1 => (∃ q10, wp_X8_isNet_L10 Q h0 (fun I_9 => wp_X8_isName I_9 Q h0 (I1 h0 3) 0 (fun r10 => ((r10 = 0 → wp_X8_isName I_9 Q h0 (I1 h0 3) 1 (fun r12 => ((r12 = 0 → wp_X8_isName I_9 Q h0 (I1 h0 3) 2 (fun r14 => ((r14 = 0 → wp_X8_isName I_9 Q h0 (I1 h0 3) 3 (fun r16 => ((r16 = 0 → wp_X8_isName I_9 Q h0 (I1 h0 3) 4 (fun r18 => ((r18 = 0 → post (0 : Int32) (sti I_9 h0 3 (I1 h0 3))) ∧ (¬ r18 = 0 → (∃ q140, wp_X8_isNet_L140 Q h0 x1 post q140 I_9 (0 : Int32)))))) ∧ (¬ r16 = 0 → wp_X8_isLinks I_9 Q h0 x1 (fun r27 I27 => ((r27 = 0 ∨ r27 = 1) ∧ post r27 I27)))))) ∧ (¬ r14 = 0 → wp_X8_isStar I_9 Q h0 x1 (fun r28 I28 => ((r28 = 0 ∨ r28 = 1) ∧ post r28 I28)))))) ∧ (¬ r12 = 0 → wp_X8_isRow I_9 Q h0 x1 (1 : Int32) (fun r29 I29 => ((r29 = 0 ∨ r29 = 1) ∧ post r29 I29)))))) ∧ (¬ r10 = 0 → wp_X8_isRow I_9 Q h0 x1 (0 : Int32) (fun r30 I30 => ((r30 = 0 ∨ r30 = 1) ∧ post r30 I30)))))) q10 I1))
set_option maxHeartbeats 4000000 in
set_option maxRecDepth 100000 in
theorem met_X8_isNet {Z : Nat → Prop} {A : Nat → Prop} {D : va_G} {D2 : Nat → ClassId} {ad : Nat → Nat} {N : Nat} {T : Nat → Nat × Nat} (l : Launch) {I : KI} {J : KJ} {Q : KQ} {h0 : Nat} {x1 : Int32} {post : Int32 → KI → Prop} (hWF : WF Z N T Q) (z0 : OKr Z N T h0 (8, 0)) (hw : wp_X8_isNet I Q h0 x1 post) : Met l yX8_isNet (.code yX8_isNet cX8_isNet 4 (some .boolean) :: BIG) ({ frames := 5, cells := 0, slots := 0, locals := 108 }) (Pr D D2 A ad N T I J Q [.ref (ad h0), .int x1]) (va_Qi (fun (r : Int32) (u : KS) => post r u.1 ∧ u.2.1 = J ∧ u.2.2 = Q ∧ WF Z N T u.2.2) (Bw D D2 ad N T) A) 0 0 A := by
  refine Met_GG (lv0 := [(0, .ref (ad h0)), (1, .int x1)]) (by decide +kernel) [.ref (ad h0), .int x1] (Nat.le_of_ble_eq_true rfl) rfl ?_
  intro p e s m below meth c C hr
  have C : CX p s m [.ref (ad h0), .int x1].toArray meth c cX8_isNet 4 RX8 A D D2 := C
  unfold wp_X8_isNet at hw
  refine g_aload_n C dX8_isNet_0 rfl 0 rfl ?_
  refine g_callVi (As := []) C dX8_isNet_1 ft_204 z0 ft_202 ft_203 (met_X8_ahead l hWF z0 hw) ⟨rfl, rfl, Nat.le_of_ble_eq_true rfl, Nat.le_of_ble_eq_true rfl⟩ ⟨Nat.zero_le _, Nat.zero_le _⟩ rfl rfl (Nat.le_of_ble_eq_true rfl) (fun r1 I1 J1 Q1 hp => ?_)
  obtain ⟨hw, eJ, eQ, hWF⟩ := hp
  have eJ : J = J1 := Eq.symm eJ
  subst eJ
  have eQ : Q = Q1 := Eq.symm eQ
  subst eQ
  try dsimp only at hw hWF
  refine g_pop C dX8_isNet_4 rfl ?_
  refine g_aload_n C dX8_isNet_5 rfl 0 rfl ?_
  refine g_getI C dX8_isNet_6 ft_181 z0 ?_
  refine g_istore_n (lv' := [(2, .int (I1 h0 3)), (0, .ref (ad h0)), (1, .int x1)]) C dX8_isNet_9 rfl (by decide) rfl ?_
  have K62_u8 : ∀ (I_9 : KI), (wp_X8_isName I_9 Q h0 (I1 h0 3) 0 (fun r10 => ((r10 = 0 → wp_X8_isName I_9 Q h0 (I1 h0 3) 1 (fun r12 => ((r12 = 0 → wp_X8_isName I_9 Q h0 (I1 h0 3) 2 (fun r14 => ((r14 = 0 → wp_X8_isName I_9 Q h0 (I1 h0 3) 3 (fun r16 => ((r16 = 0 → wp_X8_isName I_9 Q h0 (I1 h0 3) 4 (fun r18 => ((r18 = 0 → post (0 : Int32) (sti I_9 h0 3 (I1 h0 3))) ∧ (¬ r18 = 0 → (∃ q140, wp_X8_isNet_L140 Q h0 x1 post q140 I_9 (0 : Int32)))))) ∧ (¬ r16 = 0 → wp_X8_isLinks I_9 Q h0 x1 (fun r27 I27 => ((r27 = 0 ∨ r27 = 1) ∧ post r27 I27)))))) ∧ (¬ r14 = 0 → wp_X8_isStar I_9 Q h0 x1 (fun r28 I28 => ((r28 = 0 ∨ r28 = 1) ∧ post r28 I28)))))) ∧ (¬ r12 = 0 → wp_X8_isRow I_9 Q h0 x1 (1 : Int32) (fun r29 I29 => ((r29 = 0 ∨ r29 = 1) ∧ post r29 I29)))))) ∧ (¬ r10 = 0 → wp_X8_isRow I_9 Q h0 x1 (0 : Int32) (fun r30 I30 => ((r30 = 0 ∨ r30 = 1) ∧ post r30 I30)))))) → WF Z N T Q → GG p l e ({ frames := 5, cells := 0, slots := 0, locals := 108 }) s m [.ref (ad h0), .int x1].toArray below meth c 4 A D D2 0 0 (MQ below (va_Qi (fun (r : Int32) (u : KS) => post r u.1 ∧ u.2.1 = J ∧ u.2.2 = Q ∧ WF Z N T u.2.2) (Bw D D2 ad N T) A) [.ref (ad h0), .int x1].toArray s 0 0 A) ad N T I_9 J Q 62 [(0, .ref (ad h0)), (1, .int x1), (2, .int (I1 h0 3))] [] := by
    intro I_9 hw hWF
    refine g_aload_n C dX8_isNet_62 rfl 0 rfl ?_
    refine g_iload_n C dX8_isNet_63 rfl 2 rfl ?_
    refine g_ldcS (i := 0) C dX8_isNet_64 (by decide) rfl ?_
    refine g_callVi (As := [.int (I1 h0 3), .ref (D2 (100 + 0))]) C dX8_isNet_66 ft_204 z0 ft_217 ft_218 (met_X8_isName l hWF z0 (by decide) hw) ⟨rfl, rfl, Nat.le_of_ble_eq_true rfl, Nat.le_of_ble_eq_true rfl⟩ ⟨Nat.zero_le _, Nat.zero_le _⟩ rfl rfl (Nat.le_of_ble_eq_true rfl) (fun r10 I10 J10 Q10 hp => ?_)
    obtain ⟨hw, eI, eJ, eQ, hWF⟩ := hp
    have eI : I_9 = I10 := Eq.symm eI
    subst eI
    have eJ : J = J10 := Eq.symm eJ
    subst eJ
    have eQ : Q = Q10 := Eq.symm eQ
    subst eQ
    try dsimp only at hw hWF
    refine g_if_eq (tgt := 79) C dX8_isNet_69 (by decide) (fun c11 => ?_) (fun c11 => ?_)
    · have hw := hw.1 c11
      refine g_aload_n C dX8_isNet_79 rfl 0 rfl ?_
      refine g_iload_n C dX8_isNet_80 rfl 2 rfl ?_
      refine g_ldcS (i := 1) C dX8_isNet_81 (by decide) rfl ?_
      refine g_callVi (As := [.int (I1 h0 3), .ref (D2 (100 + 1))]) C dX8_isNet_83 ft_204 z0 ft_217 ft_218 (met_X8_isName l hWF z0 (by decide) hw) ⟨rfl, rfl, Nat.le_of_ble_eq_true rfl, Nat.le_of_ble_eq_true rfl⟩ ⟨Nat.zero_le _, Nat.zero_le _⟩ rfl rfl (Nat.le_of_ble_eq_true rfl) (fun r12 I12 J12 Q12 hp => ?_)
      obtain ⟨hw, eI, eJ, eQ, hWF⟩ := hp
      have eI : I_9 = I12 := Eq.symm eI
      subst eI
      have eJ : J = J12 := Eq.symm eJ
      subst eJ
      have eQ : Q = Q12 := Eq.symm eQ
      subst eQ
      try dsimp only at hw hWF
      refine g_if_eq (tgt := 96) C dX8_isNet_86 (by decide) (fun c13 => ?_) (fun c13 => ?_)
      · have hw := hw.1 c13
        refine g_aload_n C dX8_isNet_96 rfl 0 rfl ?_
        refine g_iload_n C dX8_isNet_97 rfl 2 rfl ?_
        refine g_ldcS (i := 2) C dX8_isNet_98 (by decide) rfl ?_
        refine g_callVi (As := [.int (I1 h0 3), .ref (D2 (100 + 2))]) C dX8_isNet_100 ft_204 z0 ft_217 ft_218 (met_X8_isName l hWF z0 (by decide) hw) ⟨rfl, rfl, Nat.le_of_ble_eq_true rfl, Nat.le_of_ble_eq_true rfl⟩ ⟨Nat.zero_le _, Nat.zero_le _⟩ rfl rfl (Nat.le_of_ble_eq_true rfl) (fun r14 I14 J14 Q14 hp => ?_)
        obtain ⟨hw, eI, eJ, eQ, hWF⟩ := hp
        have eI : I_9 = I14 := Eq.symm eI
        subst eI
        have eJ : J = J14 := Eq.symm eJ
        subst eJ
        have eQ : Q = Q14 := Eq.symm eQ
        subst eQ
        try dsimp only at hw hWF
        refine g_if_eq (tgt := 112) C dX8_isNet_103 (by decide) (fun c15 => ?_) (fun c15 => ?_)
        · have hw := hw.1 c15
          refine g_aload_n C dX8_isNet_112 rfl 0 rfl ?_
          refine g_iload_n C dX8_isNet_113 rfl 2 rfl ?_
          refine g_ldcS (i := 3) C dX8_isNet_114 (by decide) rfl ?_
          refine g_callVi (As := [.int (I1 h0 3), .ref (D2 (100 + 3))]) C dX8_isNet_116 ft_204 z0 ft_217 ft_218 (met_X8_isName l hWF z0 (by decide) hw) ⟨rfl, rfl, Nat.le_of_ble_eq_true rfl, Nat.le_of_ble_eq_true rfl⟩ ⟨Nat.zero_le _, Nat.zero_le _⟩ rfl rfl (Nat.le_of_ble_eq_true rfl) (fun r16 I16 J16 Q16 hp => ?_)
          obtain ⟨hw, eI, eJ, eQ, hWF⟩ := hp
          have eI : I_9 = I16 := Eq.symm eI
          subst eI
          have eJ : J = J16 := Eq.symm eJ
          subst eJ
          have eQ : Q = Q16 := Eq.symm eQ
          subst eQ
          try dsimp only at hw hWF
          refine g_if_eq (tgt := 128) C dX8_isNet_119 (by decide) (fun c17 => ?_) (fun c17 => ?_)
          · have hw := hw.1 c17
            refine g_aload_n C dX8_isNet_128 rfl 0 rfl ?_
            refine g_iload_n C dX8_isNet_129 rfl 2 rfl ?_
            refine g_ldcS (i := 4) C dX8_isNet_130 (by decide) rfl ?_
            refine g_callVi (As := [.int (I1 h0 3), .ref (D2 (100 + 4))]) C dX8_isNet_132 ft_204 z0 ft_217 ft_218 (met_X8_isName l hWF z0 (by decide) hw) ⟨rfl, rfl, Nat.le_of_ble_eq_true rfl, Nat.le_of_ble_eq_true rfl⟩ ⟨Nat.zero_le _, Nat.zero_le _⟩ rfl rfl (Nat.le_of_ble_eq_true rfl) (fun r18 I18 J18 Q18 hp => ?_)
            obtain ⟨hw, eI, eJ, eQ, hWF⟩ := hp
            have eI : I_9 = I18 := Eq.symm eI
            subst eI
            have eJ : J = J18 := Eq.symm eJ
            subst eJ
            have eQ : Q = Q18 := Eq.symm eQ
            subst eQ
            try dsimp only at hw hWF
            refine g_if_eq (tgt := 162) C dX8_isNet_135 (by decide) (fun c19 => ?_) (fun c19 => ?_)
            · have hw := hw.1 c19
              refine g_aload_n C dX8_isNet_162 rfl 0 rfl ?_
              refine g_iload_n C dX8_isNet_163 rfl 2 rfl ?_
              refine g_putI C dX8_isNet_164 ft_182 z0 ?_
              refine g_iconst (v := (0 : Int32)) C dX8_isNet_167 (by decide) ?_
              exact g_zret C dX8_isNet_168 hr rfl ⟨hw, rfl, rfl, hWF⟩
            · have hw := hw.2 c19
              refine g_iconst (v := (0 : Int32)) C dX8_isNet_138 (by decide) ?_
              refine g_istore_n (lv' := [(3, .int (0 : Int32)), (0, .ref (ad h0)), (1, .int x1), (2, .int (I1 h0 3))]) C dX8_isNet_139 rfl (by decide) rfl ?_
              have L140_u23 : ∀ (n140 : Nat) (I_20 : KI) (x3_20 : Int32), wp_X8_isNet_L140 Q h0 x1 post n140 I_20 x3_20 → WF Z N T Q → GG p l e ({ frames := 5, cells := 0, slots := 0, locals := 108 }) s m [.ref (ad h0), .int x1].toArray below meth c 4 A D D2 0 0 (MQ below (va_Qi (fun (r : Int32) (u : KS) => post r u.1 ∧ u.2.1 = J ∧ u.2.2 = Q ∧ WF Z N T u.2.2) (Bw D D2 ad N T) A) [.ref (ad h0), .int x1].toArray s 0 0 A) ad N T I_20 J Q 140 [(0, .ref (ad h0)), (1, .int x1), (3, .int x3_20)] [] := by
                intro n140
                induction n140 with
                | zero => intro I_20 x3_20 hw; exact hw.elim
                | succ n140 ih_u23 =>
                  intro I_20 x3_20 hw hWF
                  unfold wp_X8_isNet_L140 at hw
                  refine g_iload_n C dX8_isNet_140 rfl 2 rfl ?_
                  refine g_aload_n C dX8_isNet_141 rfl 0 rfl ?_
                  refine g_getI C dX8_isNet_142 ft_201 z0 ?_
                  refine g_icmp_ge (tgt := 160) C dX8_isNet_145 (by decide) (fun c25 => ?_) (fun c25 => ?_)
                  · have hw := hw.1 c25
                    refine g_iconst (v := (1 : Int32)) C dX8_isNet_160 (by decide) ?_
                    exact g_zret C dX8_isNet_161 hr rfl ⟨hw, rfl, rfl, hWF⟩
                  · have hw := hw.2 c25
                    refine g_aload_n C dX8_isNet_148 rfl 0 rfl ?_
                    refine g_iload_n C dX8_isNet_149 rfl 1 rfl ?_
                    refine g_iload_n C dX8_isNet_150 rfl 2 rfl ?_
                    refine g_callVv (As := [.int x1, .int x3_20]) C dX8_isNet_151 ft_204 z0 ft_210 ft_211 (met_X8_linkToAll l hWF z0 hw) ⟨rfl, rfl, Nat.le_of_ble_eq_true rfl, Nat.le_of_ble_eq_true rfl⟩ ⟨Nat.zero_le _, Nat.zero_le _⟩ rfl rfl (Nat.le_of_ble_eq_true rfl) (fun I26 J26 Q26 hp => ?_)
                    obtain ⟨hw, eJ, eQ, hWF⟩ := hp
                    have eJ : J = J26 := Eq.symm eJ
                    subst eJ
                    have eQ : Q = Q26 := Eq.symm eQ
                    subst eQ
                    try dsimp only at hw hWF
                    refine g_iinc (v := (x3_20 + (1 : Int32))) (lv' := [(3, .int (x3_20 + (1 : Int32))), (0, .ref (ad h0)), (1, .int x1)]) C dX8_isNet_154 (q := 2) rfl rfl (by decide) rfl ?_
                    refine g_goto C dX8_isNet_157 (tgt := 140) (by decide) ?_
                    refine g_sub [1, 2, 0] rfl ?_
                    exact ih_u23 I26 (x3_20 + (1 : Int32)) hw hWF
              obtain ⟨n_u23, hw⟩ := hw
              refine g_sub [1, 2, 0] rfl ?_
              exact L140_u23 n_u23 I_9 (0 : Int32) hw hWF
          · have hw := hw.2 c17
            refine g_aload_n C dX8_isNet_122 rfl 0 rfl ?_
            refine g_iload_n C dX8_isNet_123 rfl 1 rfl ?_
            refine g_callVi (As := [.int x1]) C dX8_isNet_124 ft_204 z0 ft_219 ft_220 (met_X8_isLinks l hWF z0 hw) ⟨rfl, rfl, Nat.le_of_ble_eq_true rfl, Nat.le_of_ble_eq_true rfl⟩ ⟨Nat.zero_le _, Nat.zero_le _⟩ rfl rfl (Nat.le_of_ble_eq_true rfl) (fun r27 I27 J27 Q27 hp => ?_)
            obtain ⟨hw, eJ, eQ, hWF⟩ := hp
            have eJ : J = J27 := Eq.symm eJ
            subst eJ
            have eQ : Q = Q27 := Eq.symm eQ
            subst eQ
            try dsimp only at hw hWF
            exact g_zret C dX8_isNet_127 hr (nar_b hw.1) ⟨hw.2, rfl, rfl, hWF⟩
        · have hw := hw.2 c15
          refine g_aload_n C dX8_isNet_106 rfl 0 rfl ?_
          refine g_iload_n C dX8_isNet_107 rfl 1 rfl ?_
          refine g_callVi (As := [.int x1]) C dX8_isNet_108 ft_204 z0 ft_221 ft_222 (met_X8_isStar l hWF z0 hw) ⟨rfl, rfl, Nat.le_of_ble_eq_true rfl, Nat.le_of_ble_eq_true rfl⟩ ⟨Nat.zero_le _, Nat.zero_le _⟩ rfl rfl (Nat.le_of_ble_eq_true rfl) (fun r28 I28 J28 Q28 hp => ?_)
          obtain ⟨hw, eJ, eQ, hWF⟩ := hp
          have eJ : J = J28 := Eq.symm eJ
          subst eJ
          have eQ : Q = Q28 := Eq.symm eQ
          subst eQ
          try dsimp only at hw hWF
          exact g_zret C dX8_isNet_111 hr (nar_b hw.1) ⟨hw.2, rfl, rfl, hWF⟩
      · have hw := hw.2 c13
        refine g_aload_n C dX8_isNet_89 rfl 0 rfl ?_
        refine g_iload_n C dX8_isNet_90 rfl 1 rfl ?_
        refine g_iconst (v := (1 : Int32)) C dX8_isNet_91 (by decide) ?_
        refine g_callVi (As := [.int x1, .int (1 : Int32)]) C dX8_isNet_92 ft_204 z0 ft_223 ft_224 (met_X8_isRow l hWF z0 hw) ⟨rfl, rfl, Nat.le_of_ble_eq_true rfl, Nat.le_of_ble_eq_true rfl⟩ ⟨Nat.zero_le _, Nat.zero_le _⟩ rfl rfl (Nat.le_of_ble_eq_true rfl) (fun r29 I29 J29 Q29 hp => ?_)
        obtain ⟨hw, eJ, eQ, hWF⟩ := hp
        have eJ : J = J29 := Eq.symm eJ
        subst eJ
        have eQ : Q = Q29 := Eq.symm eQ
        subst eQ
        try dsimp only at hw hWF
        exact g_zret C dX8_isNet_95 hr (nar_b hw.1) ⟨hw.2, rfl, rfl, hWF⟩
    · have hw := hw.2 c11
      refine g_aload_n C dX8_isNet_72 rfl 0 rfl ?_
      refine g_iload_n C dX8_isNet_73 rfl 1 rfl ?_
      refine g_iconst (v := (0 : Int32)) C dX8_isNet_74 (by decide) ?_
      refine g_callVi (As := [.int x1, .int (0 : Int32)]) C dX8_isNet_75 ft_204 z0 ft_223 ft_224 (met_X8_isRow l hWF z0 hw) ⟨rfl, rfl, Nat.le_of_ble_eq_true rfl, Nat.le_of_ble_eq_true rfl⟩ ⟨Nat.zero_le _, Nat.zero_le _⟩ rfl rfl (Nat.le_of_ble_eq_true rfl) (fun r30 I30 J30 Q30 hp => ?_)
      obtain ⟨hw, eJ, eQ, hWF⟩ := hp
      have eJ : J = J30 := Eq.symm eJ
      subst eJ
      have eQ : Q = Q30 := Eq.symm eQ
      subst eQ
      try dsimp only at hw hWF
      exact g_zret C dX8_isNet_78 hr (nar_b hw.1) ⟨hw.2, rfl, rfl, hWF⟩
  have L10_u8 : ∀ (n10 : Nat) (I_2 : KI), wp_X8_isNet_L10 Q h0 (fun I_9 => wp_X8_isName I_9 Q h0 (I1 h0 3) 0 (fun r10 => ((r10 = 0 → wp_X8_isName I_9 Q h0 (I1 h0 3) 1 (fun r12 => ((r12 = 0 → wp_X8_isName I_9 Q h0 (I1 h0 3) 2 (fun r14 => ((r14 = 0 → wp_X8_isName I_9 Q h0 (I1 h0 3) 3 (fun r16 => ((r16 = 0 → wp_X8_isName I_9 Q h0 (I1 h0 3) 4 (fun r18 => ((r18 = 0 → post (0 : Int32) (sti I_9 h0 3 (I1 h0 3))) ∧ (¬ r18 = 0 → (∃ q140, wp_X8_isNet_L140 Q h0 x1 post q140 I_9 (0 : Int32)))))) ∧ (¬ r16 = 0 → wp_X8_isLinks I_9 Q h0 x1 (fun r27 I27 => ((r27 = 0 ∨ r27 = 1) ∧ post r27 I27)))))) ∧ (¬ r14 = 0 → wp_X8_isStar I_9 Q h0 x1 (fun r28 I28 => ((r28 = 0 ∨ r28 = 1) ∧ post r28 I28)))))) ∧ (¬ r12 = 0 → wp_X8_isRow I_9 Q h0 x1 (1 : Int32) (fun r29 I29 => ((r29 = 0 ∨ r29 = 1) ∧ post r29 I29)))))) ∧ (¬ r10 = 0 → wp_X8_isRow I_9 Q h0 x1 (0 : Int32) (fun r30 I30 => ((r30 = 0 ∨ r30 = 1) ∧ post r30 I30)))))) n10 I_2 → WF Z N T Q → GG p l e ({ frames := 5, cells := 0, slots := 0, locals := 108 }) s m [.ref (ad h0), .int x1].toArray below meth c 4 A D D2 0 0 (MQ below (va_Qi (fun (r : Int32) (u : KS) => post r u.1 ∧ u.2.1 = J ∧ u.2.2 = Q ∧ WF Z N T u.2.2) (Bw D D2 ad N T) A) [.ref (ad h0), .int x1].toArray s 0 0 A) ad N T I_2 J Q 10 [(0, .ref (ad h0)), (1, .int x1), (2, .int (I1 h0 3))] [] := by
    intro n10
    induction n10 with
    | zero => intro I_2 hw; exact hw.elim
    | succ n10 ih_u8 =>
      intro I_2 hw hWF
      unfold wp_X8_isNet_L10 at hw
      refine g_aload_n C dX8_isNet_10 rfl 0 rfl ?_
      refine g_getI C dX8_isNet_11 ft_181 z0 ?_
      refine g_aload_n C dX8_isNet_14 rfl 0 rfl ?_
      refine g_getI C dX8_isNet_15 ft_177 z0 ?_
      refine g_icmp_ge (tgt := 62) C dX8_isNet_18 (by decide) (fun c32 => ?_) (fun c32 => ?_)
      · have hw := hw.1 c32
        exact K62_u8 I_2 hw hWF
      · have hw := hw.2 c32
        refine g_aload_n C dX8_isNet_21 rfl 0 rfl ?_
        refine g_getQ C dX8_isNet_22 ft_179 z0 (hWF.q z0 0 rfl) ?_
        have zz33 := hWF.r z0 0 rfl
        refine g_aload_n C dX8_isNet_25 rfl 0 rfl ?_
        refine g_getI C dX8_isNet_26 ft_181 z0 ?_
        refine g_cald C dX8_isNet_29 zz33 hw.1 ?_
        have hw := hw.2
        refine g_bipush (v := (97 : Int32)) C dX8_isNet_30 (by decide) ?_
        refine g_icmp_lt (tgt := 62) C dX8_isNet_32 (by decide) (fun c34 => ?_) (fun c34 => ?_)
        · have hw := hw.1 c34
          exact K62_u8 I_2 hw hWF
        · have hw := hw.2 c34
          refine g_aload_n C dX8_isNet_35 rfl 0 rfl ?_
          refine g_getQ C dX8_isNet_36 ft_179 z0 (hWF.q z0 0 rfl) ?_
          have zz35 := hWF.r z0 0 rfl
          refine g_aload_n C dX8_isNet_39 rfl 0 rfl ?_
          refine g_getI C dX8_isNet_40 ft_181 z0 ?_
          refine g_cald C dX8_isNet_43 zz35 hw.1 ?_
          have hw := hw.2
          refine g_bipush (v := (122 : Int32)) C dX8_isNet_44 (by decide) ?_
          refine g_icmp_gt (tgt := 62) C dX8_isNet_46 (by decide) (fun c36 => ?_) (fun c36 => ?_)
          · have hw := hw.1 c36
            exact K62_u8 I_2 hw hWF
          · have hw := hw.2 c36
            refine g_aload_n C dX8_isNet_49 rfl 0 rfl ?_
            refine g_dup C dX8_isNet_50 rfl ?_
            refine g_getI C dX8_isNet_51 ft_181 z0 ?_
            refine g_iconst (v := (1 : Int32)) C dX8_isNet_54 (by decide) ?_
            refine g_iadd C dX8_isNet_55 ?_
            refine g_putI C dX8_isNet_56 ft_182 z0 ?_
            refine g_goto C dX8_isNet_59 (tgt := 10) (by decide) ?_
            exact ih_u8 (sti I_2 h0 3 ((I_2 h0 3) + (1 : Int32))) hw hWF
  obtain ⟨n_u8, hw⟩ := hw
  refine g_sub [1, 2, 0] rfl ?_
  exact L10_u8 n_u8 I1 hw hWF
def wp_X8_parse_L12 (Qf_1 : KQ) (f0_1 : Nat) (post : Int32 → KI → Prop) (k90 : KI → Prop) : Nat → KI → Int32 → Prop
  | 0, _, _ => False
  | n12 + 1, I_1, x2_1 => (((8 : Int32) ≤ x2_1 → k90 I_1) ∧ (¬ (8 : Int32) ≤ x2_1 → wp_X4_begin I_1 Qf_1 (rq Qf_1 f0_1 1) x2_1 (fun I4 => wp_X8_isNet I4 Qf_1 f0_1 x2_1 (fun r5 I5 => ((¬ r5 = 0 → wp_X8_ahead I5 Qf_1 f0_1 (fun r7 I7 => ((¬ r7 = (-1 : Int32) → ((r7 = (59 : Int32) → wp_X8_parse_L12 Qf_1 f0_1 post k90 n12 (sti I7 f0_1 3 ((I7 f0_1 3) + (1 : Int32))) (x2_1 + (1 : Int32))) ∧ (¬ r7 = (59 : Int32) → post ((-20 : Int32) - (I7 f0_1 3)) I7))) ∧ (r7 = (-1 : Int32) → post (I7 (rq Qf_1 f0_1 1) 1) I7)))) ∧ (r5 = 0 → post ((-20 : Int32) - (I5 f0_1 3)) I5))))))
def wp_X8_parse (I : KI) (Q : KQ) (h0 : Nat) (x1 : Int32) (post : Int32 → KI → Prop) : Prop := (∃ q12, wp_X8_parse_L12 Q h0 post (fun I_12 => wp_X8_ahead I_12 Q h0 (fun r13 I13 => post ((-20 : Int32) - (I13 h0 3)) I13)) q12 (sti (sti I h0 4 x1) h0 3 (0 : Int32)) (0 : Int32))
set_option maxHeartbeats 4000000 in
set_option maxRecDepth 100000 in
theorem met_X8_parse {Z : Nat → Prop} {A : Nat → Prop} {D : va_G} {D2 : Nat → ClassId} {ad : Nat → Nat} {N : Nat} {T : Nat → Nat × Nat} (l : Launch) {I : KI} {J : KJ} {Q : KQ} {h0 : Nat} {x1 : Int32} {post : Int32 → KI → Prop} (hWF : WF Z N T Q) (z0 : OKr Z N T h0 (8, 0)) (hw : wp_X8_parse I Q h0 x1 post) : Met l yX8_parse (.code yX8_parse cX8_parse 4 (some .int) :: BIG) ({ frames := 6, cells := 0, slots := 0, locals := 131 }) (Pr D D2 A ad N T I J Q [.ref (ad h0), .int x1]) (va_Qi (fun (r : Int32) (u : KS) => post r u.1 ∧ u.2.1 = J ∧ u.2.2 = Q ∧ WF Z N T u.2.2) (Bw D D2 ad N T) A) 0 0 A := by
  refine Met_GG (lv0 := [(0, .ref (ad h0)), (1, .int x1)]) (by decide +kernel) [.ref (ad h0), .int x1] (Nat.le_of_ble_eq_true rfl) rfl ?_
  intro p e s m below meth c C hr
  have C : CX p s m [.ref (ad h0), .int x1].toArray meth c cX8_parse 4 RX8 A D D2 := C
  unfold wp_X8_parse at hw
  refine g_aload_n C dX8_parse_0 rfl 0 rfl ?_
  refine g_iload_n C dX8_parse_1 rfl 1 rfl ?_
  refine g_putI C dX8_parse_2 ft_225 z0 ?_
  refine g_aload_n C dX8_parse_5 rfl 0 rfl ?_
  refine g_iconst (v := (0 : Int32)) C dX8_parse_6 (by decide) ?_
  refine g_putI C dX8_parse_7 ft_182 z0 ?_
  refine g_iconst (v := (0 : Int32)) C dX8_parse_10 (by decide) ?_
  refine g_istore_n (lv' := [(2, .int (0 : Int32)), (0, .ref (ad h0)), (1, .int x1)]) C dX8_parse_11 rfl (by decide) rfl ?_
  have K90_u11 : ∀ (I_12 : KI), (wp_X8_ahead I_12 Q h0 (fun r13 I13 => post ((-20 : Int32) - (I13 h0 3)) I13)) → WF Z N T Q → GG p l e ({ frames := 6, cells := 0, slots := 0, locals := 131 }) s m [.ref (ad h0), .int x1].toArray below meth c 4 A D D2 0 0 (MQ below (va_Qi (fun (r : Int32) (u : KS) => post r u.1 ∧ u.2.1 = J ∧ u.2.2 = Q ∧ WF Z N T u.2.2) (Bw D D2 ad N T) A) [.ref (ad h0), .int x1].toArray s 0 0 A) ad N T I_12 J Q 90 [(0, .ref (ad h0))] [] := by
    intro I_12 hw hWF
    refine g_aload_n C dX8_parse_90 rfl 0 rfl ?_
    refine g_callVi (As := []) C dX8_parse_91 ft_204 z0 ft_202 ft_203 (met_X8_ahead l hWF z0 hw) ⟨rfl, rfl, Nat.le_of_ble_eq_true rfl, Nat.le_of_ble_eq_true rfl⟩ ⟨Nat.zero_le _, Nat.zero_le _⟩ rfl rfl (Nat.le_of_ble_eq_true rfl) (fun r13 I13 J13 Q13 hp => ?_)
    obtain ⟨hw, eJ, eQ, hWF⟩ := hp
    have eJ : J = J13 := Eq.symm eJ
    subst eJ
    have eQ : Q = Q13 := Eq.symm eQ
    subst eQ
    try dsimp only at hw hWF
    refine g_pop C dX8_parse_94 rfl ?_
    refine g_bipush (v := (-20 : Int32)) C dX8_parse_95 (by decide) ?_
    refine g_aload_n C dX8_parse_97 rfl 0 rfl ?_
    refine g_getI C dX8_parse_98 ft_181 z0 ?_
    refine g_isub C dX8_parse_101 ?_
    exact g_iret C dX8_parse_102 hr ⟨hw, rfl, rfl, hWF⟩
  have L12_u11 : ∀ (n12 : Nat) (I_1 : KI) (x2_1 : Int32), wp_X8_parse_L12 Q h0 post (fun I_12 => wp_X8_ahead I_12 Q h0 (fun r13 I13 => post ((-20 : Int32) - (I13 h0 3)) I13)) n12 I_1 x2_1 → WF Z N T Q → GG p l e ({ frames := 6, cells := 0, slots := 0, locals := 131 }) s m [.ref (ad h0), .int x1].toArray below meth c 4 A D D2 0 0 (MQ below (va_Qi (fun (r : Int32) (u : KS) => post r u.1 ∧ u.2.1 = J ∧ u.2.2 = Q ∧ WF Z N T u.2.2) (Bw D D2 ad N T) A) [.ref (ad h0), .int x1].toArray s 0 0 A) ad N T I_1 J Q 12 [(0, .ref (ad h0)), (2, .int x2_1)] [] := by
    intro n12
    induction n12 with
    | zero => intro I_1 x2_1 hw; exact hw.elim
    | succ n12 ih_u11 =>
      intro I_1 x2_1 hw hWF
      unfold wp_X8_parse_L12 at hw
      refine g_iload_n C dX8_parse_12 rfl 1 rfl ?_
      refine g_bipush (v := (8 : Int32)) C dX8_parse_13 (by decide) ?_
      refine g_icmp_ge (tgt := 90) C dX8_parse_15 (by decide) (fun c15 => ?_) (fun c15 => ?_)
      · have hw := hw.1 c15
        refine g_sub [0] rfl ?_
        exact K90_u11 I_1 hw hWF
      · have hw := hw.2 c15
        refine g_aload_n C dX8_parse_18 rfl 0 rfl ?_
        refine g_getQ C dX8_parse_19 ft_205 z0 (hWF.q z0 1 rfl) ?_
        have zz16 := hWF.r z0 1 rfl
        refine g_iload_n C dX8_parse_22 rfl 1 rfl ?_
        refine g_callVv (As := [.int x2_1]) C dX8_parse_23 ft_10 zz16 ft_229 ft_100 (met_X4_begin l hWF zz16 hw) ⟨rfl, rfl, Nat.le_of_ble_eq_true rfl, Nat.le_of_ble_eq_true rfl⟩ ⟨Nat.zero_le _, Nat.zero_le _⟩ rfl rfl (Nat.le_of_ble_eq_true rfl) (fun I17 J17 Q17 hp => ?_)
        obtain ⟨hw, eJ, eQ, hWF⟩ := hp
        have eJ : J = J17 := Eq.symm eJ
        subst eJ
        have eQ : Q = Q17 := Eq.symm eQ
        subst eQ
        try dsimp only at hw hWF
        refine g_aload_n C dX8_parse_26 rfl 0 rfl ?_
        refine g_iload_n C dX8_parse_27 rfl 1 rfl ?_
        refine g_callVi (As := [.int x2_1]) C dX8_parse_28 ft_204 z0 ft_227 ft_228 (met_X8_isNet l hWF z0 hw) ⟨rfl, rfl, Nat.le_of_ble_eq_true rfl, Nat.le_of_ble_eq_true rfl⟩ ⟨Nat.zero_le _, Nat.zero_le _⟩ rfl rfl (Nat.le_of_ble_eq_true rfl) (fun r18 I18 J18 Q18 hp => ?_)
        obtain ⟨hw, eJ, eQ, hWF⟩ := hp
        have eJ : J = J18 := Eq.symm eJ
        subst eJ
        have eQ : Q = Q18 := Eq.symm eQ
        subst eQ
        try dsimp only at hw hWF
        refine g_if_ne (tgt := 42) C dX8_parse_31 (by decide) (fun c19 => ?_) (fun c19 => ?_)
        · have hw := hw.1 c19
          refine g_aload_n C dX8_parse_42 rfl 0 rfl ?_
          refine g_callVi (As := []) C dX8_parse_43 ft_204 z0 ft_202 ft_203 (met_X8_ahead l hWF z0 hw) ⟨rfl, rfl, Nat.le_of_ble_eq_true rfl, Nat.le_of_ble_eq_true rfl⟩ ⟨Nat.zero_le _, Nat.zero_le _⟩ rfl rfl (Nat.le_of_ble_eq_true rfl) (fun r20 I20 J20 Q20 hp => ?_)
          obtain ⟨hw, eJ, eQ, hWF⟩ := hp
          have eJ : J = J20 := Eq.symm eJ
          subst eJ
          have eQ : Q = Q20 := Eq.symm eQ
          subst eQ
          try dsimp only at hw hWF
          refine g_istore_n (lv' := [(3, .int r20), (0, .ref (ad h0)), (2, .int x2_1)]) C dX8_parse_46 rfl (by decide) rfl ?_
          refine g_iload_n C dX8_parse_47 rfl 0 rfl ?_
          refine g_iconst (v := (-1 : Int32)) C dX8_parse_48 (by decide) ?_
          refine g_icmp_ne (tgt := 60) C dX8_parse_49 (by decide) (fun c21 => ?_) (fun c21 => ?_)
          · have hw := hw.1 c21
            refine g_iload_n C dX8_parse_60 rfl 0 rfl ?_
            refine g_bipush (v := (59 : Int32)) C dX8_parse_61 (by decide) ?_
            refine g_icmp_eq (tgt := 74) C dX8_parse_63 (by decide) (fun c22 => ?_) (fun c22 => ?_)
            · have hw := hw.1 c22
              refine g_aload_n C dX8_parse_74 rfl 1 rfl ?_
              refine g_dup C dX8_parse_75 rfl ?_
              refine g_getI C dX8_parse_76 ft_181 z0 ?_
              refine g_iconst (v := (1 : Int32)) C dX8_parse_79 (by decide) ?_
              refine g_iadd C dX8_parse_80 ?_
              refine g_putI C dX8_parse_81 ft_182 z0 ?_
              refine g_iinc (v := (x2_1 + (1 : Int32))) (lv' := [(2, .int (x2_1 + (1 : Int32))), (3, .int r20), (0, .ref (ad h0))]) C dX8_parse_84 (q := 2) rfl rfl (by decide) rfl ?_
              refine g_goto C dX8_parse_87 (tgt := 12) (by decide) ?_
              refine g_sub [2, 0] rfl ?_
              exact ih_u11 (sti I20 h0 3 ((I20 h0 3) + (1 : Int32))) (x2_1 + (1 : Int32)) hw hWF
            · have hw := hw.2 c22
              refine g_bipush (v := (-20 : Int32)) C dX8_parse_66 (by decide) ?_
              refine g_aload_n C dX8_parse_68 rfl 1 rfl ?_
              refine g_getI C dX8_parse_69 ft_181 z0 ?_
              refine g_isub C dX8_parse_72 ?_
              exact g_iret C dX8_parse_73 hr ⟨hw, rfl, rfl, hWF⟩
          · have hw := hw.2 c21
            refine g_aload_n C dX8_parse_52 rfl 1 rfl ?_
            refine g_getQ C dX8_parse_53 ft_205 z0 (hWF.q z0 1 rfl) ?_
            have zz23 := hWF.r z0 1 rfl
            refine g_getI C dX8_parse_56 ft_226 zz23 ?_
            exact g_iret C dX8_parse_59 hr ⟨hw, rfl, rfl, hWF⟩
        · have hw := hw.2 c19
          refine g_bipush (v := (-20 : Int32)) C dX8_parse_34 (by decide) ?_
          refine g_aload_n C dX8_parse_36 rfl 0 rfl ?_
          refine g_getI C dX8_parse_37 ft_181 z0 ?_
          refine g_isub C dX8_parse_40 ?_
          exact g_iret C dX8_parse_41 hr ⟨hw, rfl, rfl, hWF⟩
  obtain ⟨n_u11, hw⟩ := hw
  refine g_sub [1, 0] rfl ?_
  exact L12_u11 n_u11 (sti (sti I h0 4 x1) h0 3 (0 : Int32)) (0 : Int32) hw hWF
def wp_X9_having_L6 (If_1 : KI) (Qf_1 : KQ) (f0_1 : Nat) (f1_1 : Nat) (f2_1 : Int32) (f3_1 : Int32) (post : Int32 → Prop) : Nat → Int32 → Int32 → Prop
  | 0, _, _ => False
  | n6 + 1, x4_1, x5_1 => (((If_1 f1_1 3) ≤ x5_1 → post x4_1) ∧ (¬ (If_1 f1_1 3) ≤ x5_1 → wp_X10_has f3_1 x5_1 (fun r3 => ((r3 = 0 → wp_X9_having_L6 If_1 Qf_1 f0_1 f1_1 f2_1 f3_1 post n6 (x4_1 + (0 : Int32)) (x5_1 + (1 : Int32))) ∧ (¬ r3 = 0 → (vp_in x5_1 6 ∧ ((¬ (If_1 (rq Qf_1 f0_1 0) x5_1.toNatClampNeg) = f2_1 → wp_X9_having_L6 If_1 Qf_1 f0_1 f1_1 f2_1 f3_1 post n6 (x4_1 + (0 : Int32)) (x5_1 + (1 : Int32))) ∧ ((If_1 (rq Qf_1 f0_1 0) x5_1.toNatClampNeg) = f2_1 → wp_X9_having_L6 If_1 Qf_1 f0_1 f1_1 f2_1 f3_1 post n6 (x4_1 + (1 : Int32)) (x5_1 + (1 : Int32))))))))))
def wp_X9_having (I : KI) (Q : KQ) (h0 : Nat) (h1 : Nat) (x2 : Int32) (x3 : Int32) (post : Int32 → Prop) : Prop := (∃ q6, wp_X9_having_L6 I Q h0 h1 x2 x3 post q6 (0 : Int32) (0 : Int32))
set_option maxHeartbeats 4000000 in
set_option maxRecDepth 100000 in
theorem met_X9_having {Z : Nat → Prop} {A : Nat → Prop} {D : va_G} {D2 : Nat → ClassId} {ad : Nat → Nat} {N : Nat} {T : Nat → Nat × Nat} (l : Launch) {I : KI} {J : KJ} {Q : KQ} {h0 : Nat} {h1 : Nat} {x2 : Int32} {x3 : Int32} {post : Int32 → Prop} (hWF : WF Z N T Q) (z0 : OKr Z N T h0 (9, 0)) (z1 : OKr Z N T h1 (1, 0)) (hw : wp_X9_having I Q h0 h1 x2 x3 post) : Met l yX9_having (.code yX9_having cX9_having 6 (some .int) :: BIG) ({ frames := 1, cells := 0, slots := 0, locals := 21 }) (Pr D D2 A ad N T I J Q [.ref (ad h0), .ref (ad h1), .int x2, .int x3]) (va_Qi (fun (r : Int32) (u : KS) => post r ∧ u.1 = I ∧ u.2.1 = J ∧ u.2.2 = Q ∧ WF Z N T u.2.2) (Bw D D2 ad N T) A) 0 0 A := by
  refine Met_GG (lv0 := [(0, .ref (ad h0)), (1, .ref (ad h1)), (2, .int x2), (3, .int x3)]) (by decide +kernel) [.ref (ad h0), .ref (ad h1), .int x2, .int x3] (Nat.le_of_ble_eq_true rfl) rfl ?_
  intro p e s m below meth c C hr
  have C : CX p s m [.ref (ad h0), .ref (ad h1), .int x2, .int x3].toArray meth c cX9_having 6 RX9 A D D2 := C
  unfold wp_X9_having at hw
  refine g_iconst (v := (0 : Int32)) C dX9_having_0 (by decide) ?_
  refine g_istore (lv' := [(4, .int (0 : Int32)), (0, .ref (ad h0)), (1, .ref (ad h1)), (2, .int x2), (3, .int x3)]) C dX9_having_1 (by decide) rfl ?_
  refine g_iconst (v := (0 : Int32)) C dX9_having_3 (by decide) ?_
  refine g_istore (lv' := [(5, .int (0 : Int32)), (4, .int (0 : Int32)), (0, .ref (ad h0)), (1, .ref (ad h1)), (2, .int x2), (3, .int x3)]) C dX9_having_4 (by decide) rfl ?_
  have L6_u7 : ∀ (n6 : Nat) (x4_1 : Int32) (x5_1 : Int32), wp_X9_having_L6 I Q h0 h1 x2 x3 post n6 x4_1 x5_1 → WF Z N T Q → GG p l e ({ frames := 1, cells := 0, slots := 0, locals := 21 }) s m [.ref (ad h0), .ref (ad h1), .int x2, .int x3].toArray below meth c 6 A D D2 0 0 (MQ below (va_Qi (fun (r : Int32) (u : KS) => post r ∧ u.1 = I ∧ u.2.1 = J ∧ u.2.2 = Q ∧ WF Z N T u.2.2) (Bw D D2 ad N T) A) [.ref (ad h0), .ref (ad h1), .int x2, .int x3].toArray s 0 0 A) ad N T I J Q 6 [(0, .ref (ad h0)), (1, .ref (ad h1)), (2, .int x2), (3, .int x3), (4, .int x4_1), (5, .int x5_1)] [] := by
    intro n6
    induction n6 with
    | zero => intro x4_1 x5_1 hw; exact hw.elim
    | succ n6 ih_u7 =>
      intro x4_1 x5_1 hw hWF
      unfold wp_X9_having_L6 at hw
      refine g_iload C dX9_having_6 5 rfl ?_
      refine g_aload_n C dX9_having_8 rfl 1 rfl ?_
      refine g_getI C dX9_having_9 ft_230 z1 ?_
      refine g_icmp_ge (tgt := 51) C dX9_having_12 (by decide) (fun c9 => ?_) (fun c9 => ?_)
      · have hw := hw.1 c9
        refine g_iload C dX9_having_51 4 rfl ?_
        exact g_iret C dX9_having_53 hr ⟨hw, rfl, rfl, rfl, hWF⟩
      · have hw := hw.2 c9
        refine g_iload C dX9_having_15 4 rfl ?_
        refine g_iload_n C dX9_having_17 rfl 3 rfl ?_
        refine g_iload C dX9_having_18 5 rfl ?_
        refine g_callSNi (As := [.int x3, .int x5_1]) C dX9_having_20 ft_233 ft_17 (met_X10_has l hWF  hw) ⟨rfl, rfl, Nat.le_of_ble_eq_true rfl, Nat.le_of_ble_eq_true rfl⟩ ⟨Nat.zero_le _, Nat.zero_le _⟩ rfl rfl (Nat.le_of_ble_eq_true rfl) (fun r10 I10 J10 Q10 hp => ?_)
        obtain ⟨hw, eI, eJ, eQ, hWF⟩ := hp
        have eI : I = I10 := Eq.symm eI
        subst eI
        have eJ : J = J10 := Eq.symm eJ
        subst eJ
        have eQ : Q = Q10 := Eq.symm eQ
        subst eQ
        try dsimp only at hw hWF
        refine g_if_eq (tgt := 41) C dX9_having_23 (by decide) (fun c11 => ?_) (fun c11 => ?_)
        · have hw := hw.1 c11
          refine g_iconst (v := (0 : Int32)) C dX9_having_41 (by decide) ?_
          refine g_iadd C dX9_having_42 ?_
          refine g_istore (lv' := [(4, .int (x4_1 + (0 : Int32))), (0, .ref (ad h0)), (1, .ref (ad h1)), (2, .int x2), (3, .int x3), (5, .int x5_1)]) C dX9_having_43 (by decide) rfl ?_
          refine g_iinc (v := (x5_1 + (1 : Int32))) (lv' := [(5, .int (x5_1 + (1 : Int32))), (4, .int (x4_1 + (0 : Int32))), (0, .ref (ad h0)), (1, .ref (ad h1)), (2, .int x2), (3, .int x3)]) C dX9_having_45 (q := 5) rfl rfl (by decide) rfl ?_
          refine g_goto C dX9_having_48 (tgt := 6) (by decide) ?_
          refine g_sub [2, 3, 4, 5, 1, 0] rfl ?_
          exact ih_u7 (x4_1 + (0 : Int32)) (x5_1 + (1 : Int32)) hw hWF
        · have hw := hw.2 c11
          refine g_aload_n C dX9_having_26 rfl 0 rfl ?_
          refine g_getQ C dX9_having_27 ft_231 z0 (hWF.q z0 0 rfl) ?_
          have zz12 := hWF.r z0 0 rfl
          refine g_iload C dX9_having_30 5 rfl ?_
          refine g_iald C dX9_having_32 zz12 hw.1 ?_
          have hw := hw.2
          refine g_iload_n C dX9_having_33 rfl 2 rfl ?_
          refine g_icmp_ne (tgt := 41) C dX9_having_34 (by decide) (fun c13 => ?_) (fun c13 => ?_)
          · have hw := hw.1 c13
            refine g_iconst (v := (0 : Int32)) C dX9_having_41 (by decide) ?_
            refine g_iadd C dX9_having_42 ?_
            refine g_istore (lv' := [(4, .int (x4_1 + (0 : Int32))), (0, .ref (ad h0)), (1, .ref (ad h1)), (2, .int x2), (3, .int x3), (5, .int x5_1)]) C dX9_having_43 (by decide) rfl ?_
            refine g_iinc (v := (x5_1 + (1 : Int32))) (lv' := [(5, .int (x5_1 + (1 : Int32))), (4, .int (x4_1 + (0 : Int32))), (0, .ref (ad h0)), (1, .ref (ad h1)), (2, .int x2), (3, .int x3)]) C dX9_having_45 (q := 5) rfl rfl (by decide) rfl ?_
            refine g_goto C dX9_having_48 (tgt := 6) (by decide) ?_
            refine g_sub [2, 3, 4, 5, 1, 0] rfl ?_
            exact ih_u7 (x4_1 + (0 : Int32)) (x5_1 + (1 : Int32)) hw hWF
          · have hw := hw.2 c13
            refine g_iconst (v := (1 : Int32)) C dX9_having_37 (by decide) ?_
            refine g_goto C dX9_having_38 (tgt := 42) (by decide) ?_
            refine g_iadd C dX9_having_42 ?_
            refine g_istore (lv' := [(4, .int (x4_1 + (1 : Int32))), (0, .ref (ad h0)), (1, .ref (ad h1)), (2, .int x2), (3, .int x3), (5, .int x5_1)]) C dX9_having_43 (by decide) rfl ?_
            refine g_iinc (v := (x5_1 + (1 : Int32))) (lv' := [(5, .int (x5_1 + (1 : Int32))), (4, .int (x4_1 + (1 : Int32))), (0, .ref (ad h0)), (1, .ref (ad h1)), (2, .int x2), (3, .int x3)]) C dX9_having_45 (q := 5) rfl rfl (by decide) rfl ?_
            refine g_goto C dX9_having_48 (tgt := 6) (by decide) ?_
            refine g_sub [2, 3, 4, 5, 1, 0] rfl ?_
            exact ih_u7 (x4_1 + (1 : Int32)) (x5_1 + (1 : Int32)) hw hWF
  obtain ⟨n_u7, hw⟩ := hw
  refine g_sub [2, 3, 4, 5, 1, 0] rfl ?_
  exact L6_u7 n_u7 (0 : Int32) (0 : Int32) hw hWF
def wp_X9_seeAlike_L3 (If_1 : KI) (Qf_1 : KQ) (f0_1 : Nat) (f1_1 : Nat) (f2_1 : Int32) (f3_1 : Int32) (post : Int32 → Prop) : Nat → Int32 → Prop
  | 0, _ => False
  | n3 + 1, x4_1 => (((If_1 f1_1 3) ≤ x4_1 → post (1 : Int32)) ∧ (¬ (If_1 f1_1 3) ≤ x4_1 → wp_X9_having If_1 Qf_1 f0_1 f1_1 x4_1 f2_1 (fun r3 => wp_X9_having If_1 Qf_1 f0_1 f1_1 x4_1 f3_1 (fun r4 => ((r3 = r4 → wp_X9_seeAlike_L3 If_1 Qf_1 f0_1 f1_1 f2_1 f3_1 post n3 (x4_1 + (1 : Int32))) ∧ (¬ r3 = r4 → post (0 : Int32)))))))
def wp_X9_seeAlike (I : KI) (Q : KQ) (h0 : Nat) (h1 : Nat) (x2 : Int32) (x3 : Int32) (post : Int32 → Prop) : Prop := (∃ q3, wp_X9_seeAlike_L3 I Q h0 h1 x2 x3 post q3 (0 : Int32))
set_option maxHeartbeats 4000000 in
set_option maxRecDepth 100000 in
theorem met_X9_seeAlike {Z : Nat → Prop} {A : Nat → Prop} {D : va_G} {D2 : Nat → ClassId} {ad : Nat → Nat} {N : Nat} {T : Nat → Nat × Nat} (l : Launch) {I : KI} {J : KJ} {Q : KQ} {h0 : Nat} {h1 : Nat} {x2 : Int32} {x3 : Int32} {post : Int32 → Prop} (hWF : WF Z N T Q) (z0 : OKr Z N T h0 (9, 0)) (z1 : OKr Z N T h1 (1, 0)) (hw : wp_X9_seeAlike I Q h0 h1 x2 x3 post) : Met l yX9_seeAlike (.code yX9_seeAlike cX9_seeAlike 5 (some .boolean) :: BIG) ({ frames := 2, cells := 0, slots := 0, locals := 46 }) (Pr D D2 A ad N T I J Q [.ref (ad h0), .ref (ad h1), .int x2, .int x3]) (va_Qi (fun (r : Int32) (u : KS) => post r ∧ u.1 = I ∧ u.2.1 = J ∧ u.2.2 = Q ∧ WF Z N T u.2.2) (Bw D D2 ad N T) A) 0 0 A := by
  refine Met_GG (lv0 := [(0, .ref (ad h0)), (1, .ref (ad h1)), (2, .int x2), (3, .int x3)]) (by decide +kernel) [.ref (ad h0), .ref (ad h1), .int x2, .int x3] (Nat.le_of_ble_eq_true rfl) rfl ?_
  intro p e s m below meth c C hr
  have C : CX p s m [.ref (ad h0), .ref (ad h1), .int x2, .int x3].toArray meth c cX9_seeAlike 5 RX9 A D D2 := C
  unfold wp_X9_seeAlike at hw
  refine g_iconst (v := (0 : Int32)) C dX9_seeAlike_0 (by decide) ?_
  refine g_istore (lv' := [(4, .int (0 : Int32)), (0, .ref (ad h0)), (1, .ref (ad h1)), (2, .int x2), (3, .int x3)]) C dX9_seeAlike_1 (by decide) rfl ?_
  have L3_u6 : ∀ (n3 : Nat) (x4_1 : Int32), wp_X9_seeAlike_L3 I Q h0 h1 x2 x3 post n3 x4_1 → WF Z N T Q → GG p l e ({ frames := 2, cells := 0, slots := 0, locals := 46 }) s m [.ref (ad h0), .ref (ad h1), .int x2, .int x3].toArray below meth c 5 A D D2 0 0 (MQ below (va_Qi (fun (r : Int32) (u : KS) => post r ∧ u.1 = I ∧ u.2.1 = J ∧ u.2.2 = Q ∧ WF Z N T u.2.2) (Bw D D2 ad N T) A) [.ref (ad h0), .ref (ad h1), .int x2, .int x3].toArray s 0 0 A) ad N T I J Q 3 [(0, .ref (ad h0)), (1, .ref (ad h1)), (2, .int x2), (3, .int x3), (4, .int x4_1)] [] := by
    intro n3
    induction n3 with
    | zero => intro x4_1 hw; exact hw.elim
    | succ n3 ih_u6 =>
      intro x4_1 hw hWF
      unfold wp_X9_seeAlike_L3 at hw
      refine g_iload C dX9_seeAlike_3 4 rfl ?_
      refine g_aload_n C dX9_seeAlike_5 rfl 1 rfl ?_
      refine g_getI C dX9_seeAlike_6 ft_230 z1 ?_
      refine g_icmp_ge (tgt := 39) C dX9_seeAlike_9 (by decide) (fun c8 => ?_) (fun c8 => ?_)
      · have hw := hw.1 c8
        refine g_iconst (v := (1 : Int32)) C dX9_seeAlike_39 (by decide) ?_
        exact g_zret C dX9_seeAlike_40 hr rfl ⟨hw, rfl, rfl, rfl, hWF⟩
      · have hw := hw.2 c8
        refine g_aload_n C dX9_seeAlike_12 rfl 0 rfl ?_
        refine g_aload_n C dX9_seeAlike_13 rfl 1 rfl ?_
        refine g_iload C dX9_seeAlike_14 4 rfl ?_
        refine g_iload_n C dX9_seeAlike_16 rfl 2 rfl ?_
        refine g_callVi (As := [.ref (ad h1), .int x4_1, .int x2]) C dX9_seeAlike_17 ft_236 z0 ft_234 ft_235 (met_X9_having l hWF z0 z1 hw) ⟨rfl, rfl, Nat.le_of_ble_eq_true rfl, Nat.le_of_ble_eq_true rfl⟩ ⟨Nat.zero_le _, Nat.zero_le _⟩ rfl rfl (Nat.le_of_ble_eq_true rfl) (fun r9 I9 J9 Q9 hp => ?_)
        obtain ⟨hw, eI, eJ, eQ, hWF⟩ := hp
        have eI : I = I9 := Eq.symm eI
        subst eI
        have eJ : J = J9 := Eq.symm eJ
        subst eJ
        have eQ : Q = Q9 := Eq.symm eQ
        subst eQ
        try dsimp only at hw hWF
        refine g_aload_n C dX9_seeAlike_20 rfl 0 rfl ?_
        refine g_aload_n C dX9_seeAlike_21 rfl 1 rfl ?_
        refine g_iload C dX9_seeAlike_22 4 rfl ?_
        refine g_iload_n C dX9_seeAlike_24 rfl 3 rfl ?_
        refine g_callVi (As := [.ref (ad h1), .int x4_1, .int x3]) C dX9_seeAlike_25 ft_236 z0 ft_234 ft_235 (met_X9_having l hWF z0 z1 hw) ⟨rfl, rfl, Nat.le_of_ble_eq_true rfl, Nat.le_of_ble_eq_true rfl⟩ ⟨Nat.zero_le _, Nat.zero_le _⟩ rfl rfl (Nat.le_of_ble_eq_true rfl) (fun r10 I10 J10 Q10 hp => ?_)
        obtain ⟨hw, eI, eJ, eQ, hWF⟩ := hp
        have eI : I = I10 := Eq.symm eI
        subst eI
        have eJ : J = J10 := Eq.symm eJ
        subst eJ
        have eQ : Q = Q10 := Eq.symm eQ
        subst eQ
        try dsimp only at hw hWF
        refine g_icmp_eq (tgt := 33) C dX9_seeAlike_28 (by decide) (fun c11 => ?_) (fun c11 => ?_)
        · have hw := hw.1 c11
          refine g_iinc (v := (x4_1 + (1 : Int32))) (lv' := [(4, .int (x4_1 + (1 : Int32))), (0, .ref (ad h0)), (1, .ref (ad h1)), (2, .int x2), (3, .int x3)]) C dX9_seeAlike_33 (q := 4) rfl rfl (by decide) rfl ?_
          refine g_goto C dX9_seeAlike_36 (tgt := 3) (by decide) ?_
          refine g_sub [1, 2, 3, 4, 0] rfl ?_
          exact ih_u6 (x4_1 + (1 : Int32)) hw hWF
        · have hw := hw.2 c11
          refine g_iconst (v := (0 : Int32)) C dX9_seeAlike_31 (by decide) ?_
          exact g_zret C dX9_seeAlike_32 hr rfl ⟨hw, rfl, rfl, rfl, hWF⟩
  obtain ⟨n_u6, hw⟩ := hw
  refine g_sub [1, 2, 3, 4, 0] rfl ?_
  exact L3_u6 n_u6 (0 : Int32) hw hWF
def wp_X9_leastLike_L3 (If_1 : KI) (Qf_1 : KQ) (f0_1 : Nat) (f1_1 : Nat) (f2_1 : Int32) (f3_1 : Int32) (post : Int32 → Prop) : Nat → Int32 → Prop
  | 0, _ => False
  | n3 + 1, x4_1 => ((f3_1 ≤ x4_1 → post f3_1) ∧ (¬ f3_1 ≤ x4_1 → (vp_in x4_1 6 ∧ (vp_in f3_1 6 ∧ ((¬ (If_1 (rq Qf_1 f0_1 0) x4_1.toNatClampNeg) = (If_1 (rq Qf_1 f0_1 0) f3_1.toNatClampNeg) → wp_X9_leastLike_L3 If_1 Qf_1 f0_1 f1_1 f2_1 f3_1 post n3 (x4_1 + (1 : Int32))) ∧ ((If_1 (rq Qf_1 f0_1 0) x4_1.toNatClampNeg) = (If_1 (rq Qf_1 f0_1 0) f3_1.toNatClampNeg) → wp_X1_neighbours If_1 Qf_1 f1_1 f2_1 x4_1 (fun r6 => wp_X1_neighbours If_1 Qf_1 f1_1 f2_1 f3_1 (fun r7 => wp_X9_seeAlike If_1 Qf_1 f0_1 f1_1 r6 r7 (fun r8 => ((r8 = 0 → wp_X9_leastLike_L3 If_1 Qf_1 f0_1 f1_1 f2_1 f3_1 post n3 (x4_1 + (1 : Int32))) ∧ (¬ r8 = 0 → post x4_1)))))))))))
def wp_X9_leastLike (I : KI) (Q : KQ) (h0 : Nat) (h1 : Nat) (x2 : Int32) (x3 : Int32) (post : Int32 → Prop) : Prop := (∃ q3, wp_X9_leastLike_L3 I Q h0 h1 x2 x3 post q3 (0 : Int32))
set_option maxHeartbeats 4000000 in
set_option maxRecDepth 100000 in
theorem met_X9_leastLike {Z : Nat → Prop} {A : Nat → Prop} {D : va_G} {D2 : Nat → ClassId} {ad : Nat → Nat} {N : Nat} {T : Nat → Nat × Nat} (l : Launch) {I : KI} {J : KJ} {Q : KQ} {h0 : Nat} {h1 : Nat} {x2 : Int32} {x3 : Int32} {post : Int32 → Prop} (hWF : WF Z N T Q) (z0 : OKr Z N T h0 (9, 0)) (z1 : OKr Z N T h1 (1, 0)) (hw : wp_X9_leastLike I Q h0 h1 x2 x3 post) : Met l yX9_leastLike (.code yX9_leastLike cX9_leastLike 5 (some .int) :: BIG) ({ frames := 3, cells := 0, slots := 0, locals := 70 }) (Pr D D2 A ad N T I J Q [.ref (ad h0), .ref (ad h1), .int x2, .int x3]) (va_Qi (fun (r : Int32) (u : KS) => post r ∧ u.1 = I ∧ u.2.1 = J ∧ u.2.2 = Q ∧ WF Z N T u.2.2) (Bw D D2 ad N T) A) 0 0 A := by
  refine Met_GG (lv0 := [(0, .ref (ad h0)), (1, .ref (ad h1)), (2, .int x2), (3, .int x3)]) (by decide +kernel) [.ref (ad h0), .ref (ad h1), .int x2, .int x3] (Nat.le_of_ble_eq_true rfl) rfl ?_
  intro p e s m below meth c C hr
  have C : CX p s m [.ref (ad h0), .ref (ad h1), .int x2, .int x3].toArray meth c cX9_leastLike 5 RX9 A D D2 := C
  unfold wp_X9_leastLike at hw
  refine g_iconst (v := (0 : Int32)) C dX9_leastLike_0 (by decide) ?_
  refine g_istore (lv' := [(4, .int (0 : Int32)), (0, .ref (ad h0)), (1, .ref (ad h1)), (2, .int x2), (3, .int x3)]) C dX9_leastLike_1 (by decide) rfl ?_
  have L3_u10 : ∀ (n3 : Nat) (x4_1 : Int32), wp_X9_leastLike_L3 I Q h0 h1 x2 x3 post n3 x4_1 → WF Z N T Q → GG p l e ({ frames := 3, cells := 0, slots := 0, locals := 70 }) s m [.ref (ad h0), .ref (ad h1), .int x2, .int x3].toArray below meth c 5 A D D2 0 0 (MQ below (va_Qi (fun (r : Int32) (u : KS) => post r ∧ u.1 = I ∧ u.2.1 = J ∧ u.2.2 = Q ∧ WF Z N T u.2.2) (Bw D D2 ad N T) A) [.ref (ad h0), .ref (ad h1), .int x2, .int x3].toArray s 0 0 A) ad N T I J Q 3 [(0, .ref (ad h0)), (1, .ref (ad h1)), (2, .int x2), (3, .int x3), (4, .int x4_1)] [] := by
    intro n3
    induction n3 with
    | zero => intro x4_1 hw; exact hw.elim
    | succ n3 ih_u10 =>
      intro x4_1 hw hWF
      unfold wp_X9_leastLike_L3 at hw
      refine g_iload C dX9_leastLike_3 4 rfl ?_
      refine g_iload_n C dX9_leastLike_5 rfl 3 rfl ?_
      refine g_icmp_ge (tgt := 55) C dX9_leastLike_6 (by decide) (fun c12 => ?_) (fun c12 => ?_)
      · have hw := hw.1 c12
        refine g_iload_n C dX9_leastLike_55 rfl 3 rfl ?_
        exact g_iret C dX9_leastLike_56 hr ⟨hw, rfl, rfl, rfl, hWF⟩
      · have hw := hw.2 c12
        refine g_aload_n C dX9_leastLike_9 rfl 0 rfl ?_
        refine g_getQ C dX9_leastLike_10 ft_231 z0 (hWF.q z0 0 rfl) ?_
        have zz13 := hWF.r z0 0 rfl
        refine g_iload C dX9_leastLike_13 4 rfl ?_
        refine g_iald C dX9_leastLike_15 zz13 hw.1 ?_
        have hw := hw.2
        refine g_aload_n C dX9_leastLike_16 rfl 0 rfl ?_
        refine g_getQ C dX9_leastLike_17 ft_231 z0 (hWF.q z0 0 rfl) ?_
        have zz14 := hWF.r z0 0 rfl
        refine g_iload_n C dX9_leastLike_20 rfl 3 rfl ?_
        refine g_iald C dX9_leastLike_21 zz14 hw.1 ?_
        have hw := hw.2
        refine g_icmp_ne (tgt := 49) C dX9_leastLike_22 (by decide) (fun c15 => ?_) (fun c15 => ?_)
        · have hw := hw.1 c15
          refine g_iinc (v := (x4_1 + (1 : Int32))) (lv' := [(4, .int (x4_1 + (1 : Int32))), (0, .ref (ad h0)), (1, .ref (ad h1)), (2, .int x2), (3, .int x3)]) C dX9_leastLike_49 (q := 4) rfl rfl (by decide) rfl ?_
          refine g_goto C dX9_leastLike_52 (tgt := 3) (by decide) ?_
          refine g_sub [1, 2, 3, 4, 0] rfl ?_
          exact ih_u10 (x4_1 + (1 : Int32)) hw hWF
        · have hw := hw.2 c15
          refine g_aload_n C dX9_leastLike_25 rfl 0 rfl ?_
          refine g_aload_n C dX9_leastLike_26 rfl 1 rfl ?_
          refine g_aload_n C dX9_leastLike_27 rfl 1 rfl ?_
          refine g_iload_n C dX9_leastLike_28 rfl 2 rfl ?_
          refine g_iload C dX9_leastLike_29 4 rfl ?_
          refine g_callVi (As := [.int x2, .int x4_1]) C dX9_leastLike_31 ft_46 z1 ft_239 ft_45 (met_X1_neighbours l hWF z1 hw) ⟨rfl, rfl, Nat.le_of_ble_eq_true rfl, Nat.le_of_ble_eq_true rfl⟩ ⟨Nat.zero_le _, Nat.zero_le _⟩ rfl rfl (Nat.le_of_ble_eq_true rfl) (fun r16 I16 J16 Q16 hp => ?_)
          obtain ⟨hw, eI, eJ, eQ, hWF⟩ := hp
          have eI : I = I16 := Eq.symm eI
          subst eI
          have eJ : J = J16 := Eq.symm eJ
          subst eJ
          have eQ : Q = Q16 := Eq.symm eQ
          subst eQ
          try dsimp only at hw hWF
          refine g_aload_n C dX9_leastLike_34 rfl 1 rfl ?_
          refine g_iload_n C dX9_leastLike_35 rfl 2 rfl ?_
          refine g_iload_n C dX9_leastLike_36 rfl 3 rfl ?_
          refine g_callVi (As := [.int x2, .int x3]) C dX9_leastLike_37 ft_46 z1 ft_239 ft_45 (met_X1_neighbours l hWF z1 hw) ⟨rfl, rfl, Nat.le_of_ble_eq_true rfl, Nat.le_of_ble_eq_true rfl⟩ ⟨Nat.zero_le _, Nat.zero_le _⟩ rfl rfl (Nat.le_of_ble_eq_true rfl) (fun r17 I17 J17 Q17 hp => ?_)
          obtain ⟨hw, eI, eJ, eQ, hWF⟩ := hp
          have eI : I = I17 := Eq.symm eI
          subst eI
          have eJ : J = J17 := Eq.symm eJ
          subst eJ
          have eQ : Q = Q17 := Eq.symm eQ
          subst eQ
          try dsimp only at hw hWF
          refine g_callVi (As := [.ref (ad h1), .int r16, .int r17]) C dX9_leastLike_40 ft_236 z0 ft_237 ft_238 (met_X9_seeAlike l hWF z0 z1 hw) ⟨rfl, rfl, Nat.le_of_ble_eq_true rfl, Nat.le_of_ble_eq_true rfl⟩ ⟨Nat.zero_le _, Nat.zero_le _⟩ rfl rfl (Nat.le_of_ble_eq_true rfl) (fun r18 I18 J18 Q18 hp => ?_)
          obtain ⟨hw, eI, eJ, eQ, hWF⟩ := hp
          have eI : I = I18 := Eq.symm eI
          subst eI
          have eJ : J = J18 := Eq.symm eJ
          subst eJ
          have eQ : Q = Q18 := Eq.symm eQ
          subst eQ
          try dsimp only at hw hWF
          refine g_if_eq (tgt := 49) C dX9_leastLike_43 (by decide) (fun c19 => ?_) (fun c19 => ?_)
          · have hw := hw.1 c19
            refine g_iinc (v := (x4_1 + (1 : Int32))) (lv' := [(4, .int (x4_1 + (1 : Int32))), (0, .ref (ad h0)), (1, .ref (ad h1)), (2, .int x2), (3, .int x3)]) C dX9_leastLike_49 (q := 4) rfl rfl (by decide) rfl ?_
            refine g_goto C dX9_leastLike_52 (tgt := 3) (by decide) ?_
            refine g_sub [1, 2, 3, 4, 0] rfl ?_
            exact ih_u10 (x4_1 + (1 : Int32)) hw hWF
          · have hw := hw.2 c19
            refine g_iload C dX9_leastLike_46 4 rfl ?_
            exact g_iret C dX9_leastLike_48 hr ⟨hw, rfl, rfl, rfl, hWF⟩
  obtain ⟨n_u10, hw⟩ := hw
  refine g_sub [1, 2, 3, 4, 0] rfl ?_
  exact L3_u10 n_u10 (0 : Int32) hw hWF
def wp_X9_part_L5 (Qf_1 : KQ) (f0_1 : Nat) (f1_1 : Nat) (f2_1 : Int32) (k58 : KI → Int32 → Prop) : Nat → KI → Int32 → Int32 → Prop
  | 0, _, _, _ => False
  | n5 + 1, I_1, x3_1, x4_1 => (((I_1 f1_1 3) ≤ x4_1 → k58 I_1 x3_1) ∧ (¬ (I_1 f1_1 3) ≤ x4_1 → wp_X9_leastLike I_1 Qf_1 f0_1 f1_1 f2_1 x4_1 (fun r3 => ((¬ r3 = x4_1 → (vp_in r3 6 ∧ (vp_in x4_1 6 ∧ wp_X9_part_L5 Qf_1 f0_1 f1_1 f2_1 k58 n5 (sti I_1 (rq Qf_1 f0_1 1) x4_1.toNatClampNeg (I_1 (rq Qf_1 f0_1 1) r3.toNatClampNeg)) x3_1 (x4_1 + (1 : Int32))))) ∧ (r3 = x4_1 → (vp_in x4_1 6 ∧ wp_X9_part_L5 Qf_1 f0_1 f1_1 f2_1 k58 n5 (sti I_1 (rq Qf_1 f0_1 1) x4_1.toNatClampNeg x3_1) (x3_1 + (1 : Int32)) (x4_1 + (1 : Int32))))))))
def wp_X9_part (I : KI) (Q : KQ) (h0 : Nat) (h1 : Nat) (x2 : Int32) (post : Int32 → KI → Prop) : Prop := (∃ q5, wp_X9_part_L5 Q h0 h1 x2 (fun I_8 x3_8 => (¬ (0 : Int32) < 0 ∧ ¬ (0 : Int32) < 0 ∧ ¬ (I_8 h1 3) < 0 ∧ (0 : Int32).toNatClampNeg + (I_8 h1 3).toNatClampNeg ≤ 6 ∧ (0 : Int32).toNatClampNeg + (I_8 h1 3).toNatClampNeg ≤ 6 ∧ post x3_8 (cpi I_8 (rq Q h0 1) (rq Q h0 0) (0 : Int32).toNatClampNeg (0 : Int32).toNatClampNeg (I_8 h1 3).toNatClampNeg))) q5 I (0 : Int32) (0 : Int32))
set_option maxHeartbeats 4000000 in
set_option maxRecDepth 100000 in
theorem met_X9_part {Z : Nat → Prop} {A : Nat → Prop} {D : va_G} {D2 : Nat → ClassId} {ad : Nat → Nat} {N : Nat} {T : Nat → Nat × Nat} (l : Launch) {I : KI} {J : KJ} {Q : KQ} {h0 : Nat} {h1 : Nat} {x2 : Int32} {post : Int32 → KI → Prop} (hWF : WF Z N T Q) (z0 : OKr Z N T h0 (9, 0)) (z1 : OKr Z N T h1 (1, 0)) (hw : wp_X9_part I Q h0 h1 x2 post) : Met l yX9_part (.code yX9_part cX9_part 6 (some .int) :: BIG) ({ frames := 4, cells := 0, slots := 0, locals := 94 }) (Pr D D2 A ad N T I J Q [.ref (ad h0), .ref (ad h1), .int x2]) (va_Qi (fun (r : Int32) (u : KS) => post r u.1 ∧ u.2.1 = J ∧ u.2.2 = Q ∧ WF Z N T u.2.2) (Bw D D2 ad N T) A) 0 0 A := by
  refine Met_GG (lv0 := [(0, .ref (ad h0)), (1, .ref (ad h1)), (2, .int x2)]) (by decide +kernel) [.ref (ad h0), .ref (ad h1), .int x2] (Nat.le_of_ble_eq_true rfl) rfl ?_
  intro p e s m below meth c C hr
  have C : CX p s m [.ref (ad h0), .ref (ad h1), .int x2].toArray meth c cX9_part 6 RX9 A D D2 := C
  unfold wp_X9_part at hw
  refine g_iconst (v := (0 : Int32)) C dX9_part_0 (by decide) ?_
  refine g_istore_n (lv' := [(3, .int (0 : Int32)), (0, .ref (ad h0)), (1, .ref (ad h1)), (2, .int x2)]) C dX9_part_1 rfl (by decide) rfl ?_
  refine g_iconst (v := (0 : Int32)) C dX9_part_2 (by decide) ?_
  refine g_istore (lv' := [(4, .int (0 : Int32)), (3, .int (0 : Int32)), (0, .ref (ad h0)), (1, .ref (ad h1)), (2, .int x2)]) C dX9_part_3 (by decide) rfl ?_
  have K58_u7 : ∀ (I_8 : KI) (x3_8 : Int32), ((¬ (0 : Int32) < 0 ∧ ¬ (0 : Int32) < 0 ∧ ¬ (I_8 h1 3) < 0 ∧ (0 : Int32).toNatClampNeg + (I_8 h1 3).toNatClampNeg ≤ 6 ∧ (0 : Int32).toNatClampNeg + (I_8 h1 3).toNatClampNeg ≤ 6 ∧ post x3_8 (cpi I_8 (rq Q h0 1) (rq Q h0 0) (0 : Int32).toNatClampNeg (0 : Int32).toNatClampNeg (I_8 h1 3).toNatClampNeg))) → WF Z N T Q → GG p l e ({ frames := 4, cells := 0, slots := 0, locals := 94 }) s m [.ref (ad h0), .ref (ad h1), .int x2].toArray below meth c 6 A D D2 0 0 (MQ below (va_Qi (fun (r : Int32) (u : KS) => post r u.1 ∧ u.2.1 = J ∧ u.2.2 = Q ∧ WF Z N T u.2.2) (Bw D D2 ad N T) A) [.ref (ad h0), .ref (ad h1), .int x2].toArray s 0 0 A) ad N T I_8 J Q 58 [(0, .ref (ad h0)), (1, .ref (ad h1)), (3, .int x3_8)] [] := by
    intro I_8 x3_8 hw hWF
    refine g_aload_n C dX9_part_58 rfl 0 rfl ?_
    refine g_getQ C dX9_part_59 ft_240 z0 (hWF.q z0 1 rfl) ?_
    have zz9 := hWF.r z0 1 rfl
    refine g_iconst (v := (0 : Int32)) C dX9_part_62 (by decide) ?_
    refine g_aload_n C dX9_part_63 rfl 0 rfl ?_
    refine g_getQ C dX9_part_64 ft_231 z0 (hWF.q z0 0 rfl) ?_
    have zz10 := hWF.r z0 0 rfl
    refine g_iconst (v := (0 : Int32)) C dX9_part_67 (by decide) ?_
    refine g_aload_n C dX9_part_68 rfl 1 rfl ?_
    refine g_getI C dX9_part_69 ft_230 z1 ?_
    refine g_copyI C dX9_part_72 ft_243 zz9 zz10 hw.1 hw.2.1 hw.2.2.1 hw.2.2.2.1 hw.2.2.2.2.1 (by decide) (by decide +kernel) ?_
    have hw := hw.2.2.2.2.2
    refine g_iload_n C dX9_part_75 rfl 2 rfl ?_
    exact g_iret C dX9_part_76 hr ⟨hw, rfl, rfl, hWF⟩
  have L5_u7 : ∀ (n5 : Nat) (I_1 : KI) (x3_1 : Int32) (x4_1 : Int32), wp_X9_part_L5 Q h0 h1 x2 (fun I_8 x3_8 => (¬ (0 : Int32) < 0 ∧ ¬ (0 : Int32) < 0 ∧ ¬ (I_8 h1 3) < 0 ∧ (0 : Int32).toNatClampNeg + (I_8 h1 3).toNatClampNeg ≤ 6 ∧ (0 : Int32).toNatClampNeg + (I_8 h1 3).toNatClampNeg ≤ 6 ∧ post x3_8 (cpi I_8 (rq Q h0 1) (rq Q h0 0) (0 : Int32).toNatClampNeg (0 : Int32).toNatClampNeg (I_8 h1 3).toNatClampNeg))) n5 I_1 x3_1 x4_1 → WF Z N T Q → GG p l e ({ frames := 4, cells := 0, slots := 0, locals := 94 }) s m [.ref (ad h0), .ref (ad h1), .int x2].toArray below meth c 6 A D D2 0 0 (MQ below (va_Qi (fun (r : Int32) (u : KS) => post r u.1 ∧ u.2.1 = J ∧ u.2.2 = Q ∧ WF Z N T u.2.2) (Bw D D2 ad N T) A) [.ref (ad h0), .ref (ad h1), .int x2].toArray s 0 0 A) ad N T I_1 J Q 5 [(0, .ref (ad h0)), (1, .ref (ad h1)), (2, .int x2), (3, .int x3_1), (4, .int x4_1)] [] := by
    intro n5
    induction n5 with
    | zero => intro I_1 x3_1 x4_1 hw; exact hw.elim
    | succ n5 ih_u7 =>
      intro I_1 x3_1 x4_1 hw hWF
      unfold wp_X9_part_L5 at hw
      refine g_iload C dX9_part_5 4 rfl ?_
      refine g_aload_n C dX9_part_7 rfl 1 rfl ?_
      refine g_getI C dX9_part_8 ft_230 z1 ?_
      refine g_icmp_ge (tgt := 58) C dX9_part_11 (by decide) (fun c12 => ?_) (fun c12 => ?_)
      · have hw := hw.1 c12
        refine g_sub [0, 1, 3] rfl ?_
        exact K58_u7 I_1 x3_1 hw hWF
      · have hw := hw.2 c12
        refine g_aload_n C dX9_part_14 rfl 0 rfl ?_
        refine g_aload_n C dX9_part_15 rfl 1 rfl ?_
        refine g_iload_n C dX9_part_16 rfl 2 rfl ?_
        refine g_iload C dX9_part_17 4 rfl ?_
        refine g_callVi (As := [.ref (ad h1), .int x2, .int x4_1]) C dX9_part_19 ft_236 z0 ft_241 ft_242 (met_X9_leastLike l hWF z0 z1 hw) ⟨rfl, rfl, Nat.le_of_ble_eq_true rfl, Nat.le_of_ble_eq_true rfl⟩ ⟨Nat.zero_le _, Nat.zero_le _⟩ rfl rfl (Nat.le_of_ble_eq_true rfl) (fun r13 I13 J13 Q13 hp => ?_)
        obtain ⟨hw, eI, eJ, eQ, hWF⟩ := hp
        have eI : I_1 = I13 := Eq.symm eI
        subst eI
        have eJ : J = J13 := Eq.symm eJ
        subst eJ
        have eQ : Q = Q13 := Eq.symm eQ
        subst eQ
        try dsimp only at hw hWF
        refine g_istore (lv' := [(5, .int r13), (0, .ref (ad h0)), (1, .ref (ad h1)), (2, .int x2), (3, .int x3_1), (4, .int x4_1)]) C dX9_part_22 (by decide) rfl ?_
        refine g_aload_n C dX9_part_24 rfl 1 rfl ?_
        refine g_getQ C dX9_part_25 ft_240 z0 (hWF.q z0 1 rfl) ?_
        have zz14 := hWF.r z0 1 rfl
        refine g_iload C dX9_part_28 5 rfl ?_
        refine g_iload C dX9_part_30 0 rfl ?_
        refine g_iload C dX9_part_32 5 rfl ?_
        refine g_icmp_ne (tgt := 44) C dX9_part_34 (by decide) (fun c15 => ?_) (fun c15 => ?_)
        · have hw := hw.1 c15
          refine g_aload_n C dX9_part_44 rfl 1 rfl ?_
          refine g_getQ C dX9_part_45 ft_240 z0 (hWF.q z0 1 rfl) ?_
          have zz16 := hWF.r z0 1 rfl
          refine g_iload C dX9_part_48 0 rfl ?_
          refine g_iald C dX9_part_50 zz16 hw.1 ?_
          have hw := hw.2
          refine g_iast C dX9_part_51 zz14 hw.1 ?_
          have hw := hw.2
          refine g_iinc (v := (x4_1 + (1 : Int32))) (lv' := [(4, .int (x4_1 + (1 : Int32))), (5, .int r13), (0, .ref (ad h0)), (1, .ref (ad h1)), (2, .int x2), (3, .int x3_1)]) C dX9_part_52 (q := 5) rfl rfl (by decide) rfl ?_
          refine g_goto C dX9_part_55 (tgt := 5) (by decide) ?_
          refine g_sub [2, 3, 4, 5, 0] rfl ?_
          exact ih_u7 (sti I_1 (rq Q h0 1) x4_1.toNatClampNeg (I_1 (rq Q h0 1) r13.toNatClampNeg)) x3_1 (x4_1 + (1 : Int32)) hw hWF
        · have hw := hw.2 c15
          refine g_iload_n C dX9_part_37 rfl 4 rfl ?_
          refine g_iinc (v := (x3_1 + (1 : Int32))) (lv' := [(3, .int (x3_1 + (1 : Int32))), (5, .int r13), (0, .ref (ad h0)), (1, .ref (ad h1)), (2, .int x2), (4, .int x4_1)]) C dX9_part_38 (q := 4) rfl rfl (by decide) rfl ?_
          refine g_goto C dX9_part_41 (tgt := 51) (by decide) ?_
          refine g_iast C dX9_part_51 zz14 hw.1 ?_
          have hw := hw.2
          refine g_iinc (v := (x4_1 + (1 : Int32))) (lv' := [(4, .int (x4_1 + (1 : Int32))), (3, .int (x3_1 + (1 : Int32))), (5, .int r13), (0, .ref (ad h0)), (1, .ref (ad h1)), (2, .int x2)]) C dX9_part_52 (q := 5) rfl rfl (by decide) rfl ?_
          refine g_goto C dX9_part_55 (tgt := 5) (by decide) ?_
          refine g_sub [3, 4, 5, 1, 0] rfl ?_
          exact ih_u7 (sti I_1 (rq Q h0 1) x4_1.toNatClampNeg x3_1) (x3_1 + (1 : Int32)) (x4_1 + (1 : Int32)) hw hWF
  obtain ⟨n_u7, hw⟩ := hw
  refine g_sub [2, 3, 4, 1, 0] rfl ?_
  exact L5_u7 n_u7 I (0 : Int32) (0 : Int32) hw hWF
def wp_X9_behind_L2 (Qf_1 : KQ) (f0_1 : Nat) (f1_1 : Nat) (k31 : KI → Prop) : Nat → KI → Int32 → Prop
  | 0, _, _ => False
  | n2 + 1, I_1, x3_1 => (((I_1 f1_1 3) ≤ x3_1 → k31 I_1) ∧ (¬ (I_1 f1_1 3) ≤ x3_1 → ((¬ x3_1 = 0 → (vp_in x3_1 6 ∧ wp_X9_behind_L2 Qf_1 f0_1 f1_1 k31 n2 (sti I_1 (rq Qf_1 f0_1 0) x3_1.toNatClampNeg (1 : Int32)) (x3_1 + (1 : Int32)))) ∧ (x3_1 = 0 → (vp_in x3_1 6 ∧ wp_X9_behind_L2 Qf_1 f0_1 f1_1 k31 n2 (sti I_1 (rq Qf_1 f0_1 0) x3_1.toNatClampNeg (0 : Int32)) (x3_1 + (1 : Int32)))))))
def wp_X9_behind_L36 (Qf_7 : KQ) (f0_7 : Nat) (f1_7 : Nat) (f2_7 : Int32) (post : Int32 → KI → Prop) : Nat → KI → Int32 → Int32 → Prop
  | 0, _, _, _ => False
  | n36 + 1, I_7, x3_7, x4_7 => ((f2_7 ≤ x4_7 → post x3_7 I_7) ∧ (¬ f2_7 ≤ x4_7 → wp_X9_part I_7 Qf_7 f0_7 f1_7 ((I_7 f1_7 7) + x4_7) (fun r9 I9 => wp_X9_behind_L36 Qf_7 f0_7 f1_7 f2_7 post n36 I9 r9 (x4_7 + (1 : Int32)))))
def wp_X9_behind (I : KI) (Q : KQ) (h0 : Nat) (h1 : Nat) (x2 : Int32) (post : Int32 → KI → Prop) : Prop := (∃ q2, wp_X9_behind_L2 Q h0 h1 (fun I_6 => (∃ q36, wp_X9_behind_L36 Q h0 h1 x2 post q36 I_6 (2 : Int32) (0 : Int32))) q2 I (0 : Int32))
set_option maxHeartbeats 4000000 in
set_option maxRecDepth 100000 in
theorem met_X9_behind {Z : Nat → Prop} {A : Nat → Prop} {D : va_G} {D2 : Nat → ClassId} {ad : Nat → Nat} {N : Nat} {T : Nat → Nat × Nat} (l : Launch) {I : KI} {J : KJ} {Q : KQ} {h0 : Nat} {h1 : Nat} {x2 : Int32} {post : Int32 → KI → Prop} (hWF : WF Z N T Q) (z0 : OKr Z N T h0 (9, 0)) (z1 : OKr Z N T h1 (1, 0)) (hw : wp_X9_behind I Q h0 h1 x2 post) : Met l yX9_behind (.code yX9_behind cX9_behind 5 (some .int) :: BIG) ({ frames := 5, cells := 0, slots := 0, locals := 119 }) (Pr D D2 A ad N T I J Q [.ref (ad h0), .ref (ad h1), .int x2]) (va_Qi (fun (r : Int32) (u : KS) => post r u.1 ∧ u.2.1 = J ∧ u.2.2 = Q ∧ WF Z N T u.2.2) (Bw D D2 ad N T) A) 0 0 A := by
  refine Met_GG (lv0 := [(0, .ref (ad h0)), (1, .ref (ad h1)), (2, .int x2)]) (by decide +kernel) [.ref (ad h0), .ref (ad h1), .int x2] (Nat.le_of_ble_eq_true rfl) rfl ?_
  intro p e s m below meth c C hr
  have C : CX p s m [.ref (ad h0), .ref (ad h1), .int x2].toArray meth c cX9_behind 5 RX9 A D D2 := C
  unfold wp_X9_behind at hw
  refine g_iconst (v := (0 : Int32)) C dX9_behind_0 (by decide) ?_
  refine g_istore_n (lv' := [(3, .int (0 : Int32)), (0, .ref (ad h0)), (1, .ref (ad h1)), (2, .int x2)]) C dX9_behind_1 rfl (by decide) rfl ?_
  have K31_u5 : ∀ (I_6 : KI), ((∃ q36, wp_X9_behind_L36 Q h0 h1 x2 post q36 I_6 (2 : Int32) (0 : Int32))) → WF Z N T Q → GG p l e ({ frames := 5, cells := 0, slots := 0, locals := 119 }) s m [.ref (ad h0), .ref (ad h1), .int x2].toArray below meth c 5 A D D2 0 0 (MQ below (va_Qi (fun (r : Int32) (u : KS) => post r u.1 ∧ u.2.1 = J ∧ u.2.2 = Q ∧ WF Z N T u.2.2) (Bw D D2 ad N T) A) [.ref (ad h0), .ref (ad h1), .int x2].toArray s 0 0 A) ad N T I_6 J Q 31 [(0, .ref (ad h0)), (1, .ref (ad h1)), (2, .int x2)] [] := by
    intro I_6 hw hWF
    refine g_iconst (v := (2 : Int32)) C dX9_behind_31 (by decide) ?_
    refine g_istore_n (lv' := [(3, .int (2 : Int32)), (0, .ref (ad h0)), (1, .ref (ad h1)), (2, .int x2)]) C dX9_behind_32 rfl (by decide) rfl ?_
    refine g_iconst (v := (0 : Int32)) C dX9_behind_33 (by decide) ?_
    refine g_istore (lv' := [(4, .int (0 : Int32)), (3, .int (2 : Int32)), (0, .ref (ad h0)), (1, .ref (ad h1)), (2, .int x2)]) C dX9_behind_34 (by decide) rfl ?_
    have L36_u10 : ∀ (n36 : Nat) (I_7 : KI) (x3_7 : Int32) (x4_7 : Int32), wp_X9_behind_L36 Q h0 h1 x2 post n36 I_7 x3_7 x4_7 → WF Z N T Q → GG p l e ({ frames := 5, cells := 0, slots := 0, locals := 119 }) s m [.ref (ad h0), .ref (ad h1), .int x2].toArray below meth c 5 A D D2 0 0 (MQ below (va_Qi (fun (r : Int32) (u : KS) => post r u.1 ∧ u.2.1 = J ∧ u.2.2 = Q ∧ WF Z N T u.2.2) (Bw D D2 ad N T) A) [.ref (ad h0), .ref (ad h1), .int x2].toArray s 0 0 A) ad N T I_7 J Q 36 [(0, .ref (ad h0)), (1, .ref (ad h1)), (2, .int x2), (3, .int x3_7), (4, .int x4_7)] [] := by
      intro n36
      induction n36 with
      | zero => intro I_7 x3_7 x4_7 hw; exact hw.elim
      | succ n36 ih_u10 =>
        intro I_7 x3_7 x4_7 hw hWF
        unfold wp_X9_behind_L36 at hw
        refine g_iload C dX9_behind_36 4 rfl ?_
        refine g_iload_n C dX9_behind_38 rfl 2 rfl ?_
        refine g_icmp_ge (tgt := 61) C dX9_behind_39 (by decide) (fun c12 => ?_) (fun c12 => ?_)
        · have hw := hw.1 c12
          refine g_iload_n C dX9_behind_61 rfl 3 rfl ?_
          exact g_iret C dX9_behind_62 hr ⟨hw, rfl, rfl, hWF⟩
        · have hw := hw.2 c12
          refine g_aload_n C dX9_behind_42 rfl 0 rfl ?_
          refine g_aload_n C dX9_behind_43 rfl 1 rfl ?_
          refine g_aload_n C dX9_behind_44 rfl 1 rfl ?_
          refine g_getI C dX9_behind_45 ft_244 z1 ?_
          refine g_iload C dX9_behind_48 4 rfl ?_
          refine g_iadd C dX9_behind_50 ?_
          refine g_callVi (As := [.ref (ad h1), .int ((I_7 h1 7) + x4_7)]) C dX9_behind_51 ft_236 z0 ft_245 ft_246 (met_X9_part l hWF z0 z1 hw) ⟨rfl, rfl, Nat.le_of_ble_eq_true rfl, Nat.le_of_ble_eq_true rfl⟩ ⟨Nat.zero_le _, Nat.zero_le _⟩ rfl rfl (Nat.le_of_ble_eq_true rfl) (fun r13 I13 J13 Q13 hp => ?_)
          obtain ⟨hw, eJ, eQ, hWF⟩ := hp
          have eJ : J = J13 := Eq.symm eJ
          subst eJ
          have eQ : Q = Q13 := Eq.symm eQ
          subst eQ
          try dsimp only at hw hWF
          refine g_istore_n (lv' := [(3, .int r13), (0, .ref (ad h0)), (1, .ref (ad h1)), (2, .int x2), (4, .int x4_7)]) C dX9_behind_54 rfl (by decide) rfl ?_
          refine g_iinc (v := (x4_7 + (1 : Int32))) (lv' := [(4, .int (x4_7 + (1 : Int32))), (3, .int r13), (0, .ref (ad h0)), (1, .ref (ad h1)), (2, .int x2)]) C dX9_behind_55 (q := 4) rfl rfl (by decide) rfl ?_
          refine g_goto C dX9_behind_58 (tgt := 36) (by decide) ?_
          refine g_sub [2, 3, 4, 1, 0] rfl ?_
          exact ih_u10 I13 r13 (x4_7 + (1 : Int32)) hw hWF
    obtain ⟨n_u10, hw⟩ := hw
    refine g_sub [2, 3, 4, 1, 0] rfl ?_
    exact L36_u10 n_u10 I_6 (2 : Int32) (0 : Int32) hw hWF
  have L2_u5 : ∀ (n2 : Nat) (I_1 : KI) (x3_1 : Int32), wp_X9_behind_L2 Q h0 h1 (fun I_6 => (∃ q36, wp_X9_behind_L36 Q h0 h1 x2 post q36 I_6 (2 : Int32) (0 : Int32))) n2 I_1 x3_1 → WF Z N T Q → GG p l e ({ frames := 5, cells := 0, slots := 0, locals := 119 }) s m [.ref (ad h0), .ref (ad h1), .int x2].toArray below meth c 5 A D D2 0 0 (MQ below (va_Qi (fun (r : Int32) (u : KS) => post r u.1 ∧ u.2.1 = J ∧ u.2.2 = Q ∧ WF Z N T u.2.2) (Bw D D2 ad N T) A) [.ref (ad h0), .ref (ad h1), .int x2].toArray s 0 0 A) ad N T I_1 J Q 2 [(0, .ref (ad h0)), (1, .ref (ad h1)), (2, .int x2), (3, .int x3_1)] [] := by
    intro n2
    induction n2 with
    | zero => intro I_1 x3_1 hw; exact hw.elim
    | succ n2 ih_u5 =>
      intro I_1 x3_1 hw hWF
      unfold wp_X9_behind_L2 at hw
      refine g_iload_n C dX9_behind_2 rfl 3 rfl ?_
      refine g_aload_n C dX9_behind_3 rfl 1 rfl ?_
      refine g_getI C dX9_behind_4 ft_230 z1 ?_
      refine g_icmp_ge (tgt := 31) C dX9_behind_7 (by decide) (fun c15 => ?_) (fun c15 => ?_)
      · have hw := hw.1 c15
        refine g_sub [0, 1, 2] rfl ?_
        exact K31_u5 I_1 hw hWF
      · have hw := hw.2 c15
        refine g_aload_n C dX9_behind_10 rfl 0 rfl ?_
        refine g_getQ C dX9_behind_11 ft_231 z0 (hWF.q z0 0 rfl) ?_
        have zz16 := hWF.r z0 0 rfl
        refine g_iload_n C dX9_behind_14 rfl 3 rfl ?_
        refine g_iload_n C dX9_behind_15 rfl 3 rfl ?_
        refine g_if_ne (tgt := 23) C dX9_behind_16 (by decide) (fun c17 => ?_) (fun c17 => ?_)
        · have hw := hw.1 c17
          refine g_iconst (v := (1 : Int32)) C dX9_behind_23 (by decide) ?_
          refine g_iast C dX9_behind_24 zz16 hw.1 ?_
          have hw := hw.2
          refine g_iinc (v := (x3_1 + (1 : Int32))) (lv' := [(3, .int (x3_1 + (1 : Int32))), (0, .ref (ad h0)), (1, .ref (ad h1)), (2, .int x2)]) C dX9_behind_25 (q := 3) rfl rfl (by decide) rfl ?_
          refine g_goto C dX9_behind_28 (tgt := 2) (by decide) ?_
          refine g_sub [1, 2, 3, 0] rfl ?_
          exact ih_u5 (sti I_1 (rq Q h0 0) x3_1.toNatClampNeg (1 : Int32)) (x3_1 + (1 : Int32)) hw hWF
        · have hw := hw.2 c17
          refine g_iconst (v := (0 : Int32)) C dX9_behind_19 (by decide) ?_
          refine g_goto C dX9_behind_20 (tgt := 24) (by decide) ?_
          refine g_iast C dX9_behind_24 zz16 hw.1 ?_
          have hw := hw.2
          refine g_iinc (v := (x3_1 + (1 : Int32))) (lv' := [(3, .int (x3_1 + (1 : Int32))), (0, .ref (ad h0)), (1, .ref (ad h1)), (2, .int x2)]) C dX9_behind_25 (q := 3) rfl rfl (by decide) rfl ?_
          refine g_goto C dX9_behind_28 (tgt := 2) (by decide) ?_
          refine g_sub [1, 2, 3, 0] rfl ?_
          exact ih_u5 (sti I_1 (rq Q h0 0) x3_1.toNatClampNeg (0 : Int32)) (x3_1 + (1 : Int32)) hw hWF
  obtain ⟨n_u5, hw⟩ := hw
  refine g_sub [1, 2, 3, 0] rfl ?_
  exact L2_u5 n_u5 I (0 : Int32) hw hWF
def wp_X10_put (I : KI) (Q : KQ) (h0 : Nat) (x1 : Int32) (x2 : Int32) (post : Int32 → KI → KQ → Prop) : Prop := wp_X1_hasNode I (rq Q h0 0) x1 (fun r2 => ((r2 = 0 → post (-1 : Int32) I Q) ∧ (¬ r2 = 0 → wp_X1_isSum I (rq Q h0 0) x2 (fun r5 => ((r5 = 0 → post (-1 : Int32) I Q) ∧ (¬ r5 = 0 → ((¬ x2 = 0 → (vp_in x1 6 ∧ wp_X7_rest I Q (rq Q (rq Q (rq Q h0 0) 1) x1.toNatClampNeg) x2 (fun r11 => ((¬ r11 = 0 → wp_X3_keep I Q (rq Q h0 1) (rq Q h0 0) (fun I15 Q15 => (vp_in x1 6 ∧ wp_X7_add I15 Q15 (rq Q15 (rq Q15 (rq Q15 h0 0) 1) x1.toNatClampNeg) x2 (fun r19 I19 => (vp_in x1 6 ∧ wp_X7_rank I19 Q15 (rq Q15 (rq Q15 (rq Q15 h0 0) 1) x1.toNatClampNeg) (fun r23 => post r23 I19 Q15)))))) ∧ (r11 = 0 → post (-2 : Int32) I Q))))) ∧ (x2 = 0 → post (-1 : Int32) I Q))))))))
set_option maxHeartbeats 4000000 in
set_option maxRecDepth 100000 in
theorem met_X10_put {Z : Nat → Prop} {A : Nat → Prop} {D : va_G} {D2 : Nat → ClassId} {ad : Nat → Nat} {N : Nat} {T : Nat → Nat × Nat} (l : Launch) {I : KI} {J : KJ} {Q : KQ} {h0 : Nat} {x1 : Int32} {x2 : Int32} {post : Int32 → KI → KQ → Prop} (hWF : WF Z N T Q) (z0 : OKr Z N T h0 (10, 0)) (hw : wp_X10_put I Q h0 x1 x2 post) : Met l yX10_put (.code yX10_put cX10_put 3 (some .int) :: BIG) ({ frames := 4, cells := 0, slots := 0, locals := 104 }) (Pr D D2 A ad N T I J Q [.ref (ad h0), .int x1, .int x2]) (va_Qi (fun (r : Int32) (u : KS) => post r u.1 u.2.2 ∧ u.2.1 = J ∧ WF Z N T u.2.2) (Bw D D2 ad N T) A) 0 0 A := by
  refine Met_GG (lv0 := [(0, .ref (ad h0)), (1, .int x1), (2, .int x2)]) (by decide +kernel) [.ref (ad h0), .int x1, .int x2] (Nat.le_of_ble_eq_true rfl) rfl ?_
  intro p e s m below meth c C hr
  have C : CX p s m [.ref (ad h0), .int x1, .int x2].toArray meth c cX10_put 3 RX10 A D D2 := C
  unfold wp_X10_put at hw
  refine g_aload_n C dX10_put_0 rfl 0 rfl ?_
  refine g_getQ C dX10_put_1 ft_247 z0 (hWF.q z0 0 rfl) ?_
  have zz1 := hWF.r z0 0 rfl
  refine g_iload_n C dX10_put_4 rfl 1 rfl ?_
  refine g_callVi (As := [.int x1]) C dX10_put_5 ft_46 zz1 ft_258 ft_259 (met_X1_hasNode l hWF zz1 hw) ⟨rfl, rfl, Nat.le_of_ble_eq_true rfl, Nat.le_of_ble_eq_true rfl⟩ ⟨Nat.zero_le _, Nat.zero_le _⟩ rfl rfl (Nat.le_of_ble_eq_true rfl) (fun r2 I2 J2 Q2 hp => ?_)
  obtain ⟨hw, eI, eJ, eQ, hWF⟩ := hp
  have eI : I = I2 := Eq.symm eI
  subst eI
  have eJ : J = J2 := Eq.symm eJ
  subst eJ
  have eQ : Q = Q2 := Eq.symm eQ
  subst eQ
  try dsimp only at hw hWF
  refine g_if_eq (tgt := 26) C dX10_put_8 (by decide) (fun c3 => ?_) (fun c3 => ?_)
  · have hw := hw.1 c3
    refine g_iconst (v := (-1 : Int32)) C dX10_put_26 (by decide) ?_
    exact g_iret C dX10_put_27 hr ⟨hw, rfl, hWF⟩
  · have hw := hw.2 c3
    refine g_aload_n C dX10_put_11 rfl 0 rfl ?_
    refine g_getQ C dX10_put_12 ft_247 z0 (hWF.q z0 0 rfl) ?_
    have zz4 := hWF.r z0 0 rfl
    refine g_iload_n C dX10_put_15 rfl 2 rfl ?_
    refine g_callVi (As := [.int x2]) C dX10_put_16 ft_46 zz4 ft_256 ft_257 (met_X1_isSum l hWF zz4 hw) ⟨rfl, rfl, Nat.le_of_ble_eq_true rfl, Nat.le_of_ble_eq_true rfl⟩ ⟨Nat.zero_le _, Nat.zero_le _⟩ rfl rfl (Nat.le_of_ble_eq_true rfl) (fun r5 I5 J5 Q5 hp => ?_)
    obtain ⟨hw, eI, eJ, eQ, hWF⟩ := hp
    have eI : I = I5 := Eq.symm eI
    subst eI
    have eJ : J = J5 := Eq.symm eJ
    subst eJ
    have eQ : Q = Q5 := Eq.symm eQ
    subst eQ
    try dsimp only at hw hWF
    refine g_if_eq (tgt := 26) C dX10_put_19 (by decide) (fun c6 => ?_) (fun c6 => ?_)
    · have hw := hw.1 c6
      refine g_iconst (v := (-1 : Int32)) C dX10_put_26 (by decide) ?_
      exact g_iret C dX10_put_27 hr ⟨hw, rfl, hWF⟩
    · have hw := hw.2 c6
      refine g_iload_n C dX10_put_22 rfl 2 rfl ?_
      refine g_if_ne (tgt := 28) C dX10_put_23 (by decide) (fun c7 => ?_) (fun c7 => ?_)
      · have hw := hw.1 c7
        refine g_aload_n C dX10_put_28 rfl 0 rfl ?_
        refine g_getQ C dX10_put_29 ft_247 z0 (hWF.q z0 0 rfl) ?_
        have zz8 := hWF.r z0 0 rfl
        refine g_getQ C dX10_put_32 ft_249 zz8 (hWF.q zz8 1 rfl) ?_
        have zz9 := hWF.r zz8 1 rfl
        refine g_iload_n C dX10_put_35 rfl 1 rfl ?_
        have hrzz10 := rft_eS hw.1
        refine g_aaldS C dX10_put_36 zz9 hw.1 (hWF.q zz9 _ hrzz10) ?_
        have zz10 := hWF.r zz9 _ hrzz10
        have hw := hw.2
        refine g_iload_n C dX10_put_37 rfl 2 rfl ?_
        refine g_callVi (As := [.int x2]) C dX10_put_38 ft_22 zz10 ft_255 ft_21 (met_X7_rest l hWF zz10 hw) ⟨rfl, rfl, Nat.le_of_ble_eq_true rfl, Nat.le_of_ble_eq_true rfl⟩ ⟨Nat.zero_le _, Nat.zero_le _⟩ rfl rfl (Nat.le_of_ble_eq_true rfl) (fun r11 I11 J11 Q11 hp => ?_)
        obtain ⟨hw, eI, eJ, eQ, hWF⟩ := hp
        have eI : I = I11 := Eq.symm eI
        subst eI
        have eJ : J = J11 := Eq.symm eJ
        subst eJ
        have eQ : Q = Q11 := Eq.symm eQ
        subst eQ
        try dsimp only at hw hWF
        refine g_if_ne (tgt := 47) C dX10_put_41 (by decide) (fun c12 => ?_) (fun c12 => ?_)
        · have hw := hw.1 c12
          refine g_aload_n C dX10_put_47 rfl 0 rfl ?_
          refine g_getQ C dX10_put_48 ft_250 z0 (hWF.q z0 1 rfl) ?_
          have zz13 := hWF.r z0 1 rfl
          refine g_aload_n C dX10_put_51 rfl 0 rfl ?_
          refine g_getQ C dX10_put_52 ft_247 z0 (hWF.q z0 0 rfl) ?_
          have zz14 := hWF.r z0 0 rfl
          refine g_callVv (As := [.ref (ad (rq Q h0 0))]) C dX10_put_55 ft_133 zz13 ft_253 ft_254 (met_X3_keep l hWF zz13 zz14 hw) ⟨rfl, rfl, Nat.le_of_ble_eq_true rfl, Nat.le_of_ble_eq_true rfl⟩ ⟨Nat.zero_le _, Nat.zero_le _⟩ rfl rfl (Nat.le_of_ble_eq_true rfl) (fun I15 J15 Q15 hp => ?_)
          obtain ⟨hw, eJ, hWF⟩ := hp
          have eJ : J = J15 := Eq.symm eJ
          subst eJ
          try dsimp only at hw hWF
          refine g_aload_n C dX10_put_58 rfl 0 rfl ?_
          refine g_getQ C dX10_put_59 ft_247 z0 (hWF.q z0 0 rfl) ?_
          have zz16 := hWF.r z0 0 rfl
          refine g_getQ C dX10_put_62 ft_249 zz16 (hWF.q zz16 1 rfl) ?_
          have zz17 := hWF.r zz16 1 rfl
          refine g_iload_n C dX10_put_65 rfl 1 rfl ?_
          have hrzz18 := rft_eS hw.1
          refine g_aaldS C dX10_put_66 zz17 hw.1 (hWF.q zz17 _ hrzz18) ?_
          have zz18 := hWF.r zz17 _ hrzz18
          have hw := hw.2
          refine g_iload_n C dX10_put_67 rfl 2 rfl ?_
          refine g_callVi (As := [.int x2]) C dX10_put_68 ft_22 zz18 ft_252 ft_28 (met_X7_add l hWF zz18 hw) ⟨rfl, rfl, Nat.le_of_ble_eq_true rfl, Nat.le_of_ble_eq_true rfl⟩ ⟨Nat.zero_le _, Nat.zero_le _⟩ rfl rfl (Nat.le_of_ble_eq_true rfl) (fun r19 I19 J19 Q19 hp => ?_)
          obtain ⟨hw, eJ, eQ, hWF⟩ := hp
          have eJ : J = J19 := Eq.symm eJ
          subst eJ
          have eQ : Q15 = Q19 := Eq.symm eQ
          subst eQ
          try dsimp only at hw hWF
          refine g_pop C dX10_put_71 rfl ?_
          refine g_aload_n C dX10_put_72 rfl 0 rfl ?_
          refine g_getQ C dX10_put_73 ft_247 z0 (hWF.q z0 0 rfl) ?_
          have zz20 := hWF.r z0 0 rfl
          refine g_getQ C dX10_put_76 ft_249 zz20 (hWF.q zz20 1 rfl) ?_
          have zz21 := hWF.r zz20 1 rfl
          refine g_iload_n C dX10_put_79 rfl 1 rfl ?_
          have hrzz22 := rft_eS hw.1
          refine g_aaldS C dX10_put_80 zz21 hw.1 (hWF.q zz21 _ hrzz22) ?_
          have zz22 := hWF.r zz21 _ hrzz22
          have hw := hw.2
          refine g_callVi (As := []) C dX10_put_81 ft_22 zz22 ft_251 ft_32 (met_X7_rank l hWF zz22 hw) ⟨rfl, rfl, Nat.le_of_ble_eq_true rfl, Nat.le_of_ble_eq_true rfl⟩ ⟨Nat.zero_le _, Nat.zero_le _⟩ rfl rfl (Nat.le_of_ble_eq_true rfl) (fun r23 I23 J23 Q23 hp => ?_)
          obtain ⟨hw, eI, eJ, eQ, hWF⟩ := hp
          have eI : I19 = I23 := Eq.symm eI
          subst eI
          have eJ : J = J23 := Eq.symm eJ
          subst eJ
          have eQ : Q15 = Q23 := Eq.symm eQ
          subst eQ
          try dsimp only at hw hWF
          exact g_iret C dX10_put_84 hr ⟨hw, rfl, hWF⟩
        · have hw := hw.2 c12
          refine g_bipush (v := (-2 : Int32)) C dX10_put_44 (by decide) ?_
          exact g_iret C dX10_put_46 hr ⟨hw, rfl, hWF⟩
      · have hw := hw.2 c7
        refine g_iconst (v := (-1 : Int32)) C dX10_put_26 (by decide) ?_
        exact g_iret C dX10_put_27 hr ⟨hw, rfl, hWF⟩
def wp_X10_node (I : KI) (Q : KQ) (h0 : Nat) (x1 : Int32) (x2 : Int32) (post : Int32 → KI → Prop) : Prop := wp_X1_hasNode I (rq Q h0 0) x1 (fun r2 => ((¬ r2 = 0 → ((x2 = 0 → (vp_in x1 6 ∧ wp_X7_rank I Q (rq Q (rq Q (rq Q h0 0) 1) x1.toNatClampNeg) (fun r8 => post r8 I))) ∧ (x2 = 1 → (vp_in x1 6 ∧ wp_X7_told I Q (rq Q (rq Q (rq Q h0 0) 1) x1.toNatClampNeg) (fun r13 => post r13 I))) ∧ (x2 = 2 → (vp_in x1 6 ∧ post (I (rq Q (rq Q h0 0) 2) x1.toNatClampNeg) I)) ∧ (x2 = 3 → wp_X1_neighbours I Q (rq Q h0 0) (I (rq Q h0 0) 7) x1 (fun r20 => post r20 I)) ∧ (x2 = 4 → wp_X5_prepare I Q (rq Q h0 5) (rq Q h0 0) (I (rq Q h0 0) 5) (fun I25 => wp_X1_neighbours I25 Q (rq Q h0 0) (I25 (rq Q h0 0) 7) x1 (fun r30 => wp_X5_growth I25 Q (rq Q h0 5) (rq Q h0 0) x1 r30 (fun r31 I31 => post r31 I31)))) ∧ (¬ x2 = 0 → ¬ x2 = 1 → ¬ x2 = 2 → ¬ x2 = 3 → ¬ x2 = 4 → post (-1 : Int32) I))) ∧ (r2 = 0 → post (-1 : Int32) I)))
set_option maxHeartbeats 4000000 in
set_option maxRecDepth 100000 in
theorem met_X10_node {Z : Nat → Prop} {A : Nat → Prop} {D : va_G} {D2 : Nat → ClassId} {ad : Nat → Nat} {N : Nat} {T : Nat → Nat × Nat} (l : Launch) {I : KI} {J : KJ} {Q : KQ} {h0 : Nat} {x1 : Int32} {x2 : Int32} {post : Int32 → KI → Prop} (hWF : WF Z N T Q) (z0 : OKr Z N T h0 (10, 0)) (hw : wp_X10_node I Q h0 x1 x2 post) : Met l yX10_node (.code yX10_node cX10_node 3 (some .int) :: BIG) ({ frames := 5, cells := 0, slots := 0, locals := 119 }) (Pr D D2 A ad N T I J Q [.ref (ad h0), .int x1, .int x2]) (va_Qi (fun (r : Int32) (u : KS) => post r u.1 ∧ u.2.1 = J ∧ u.2.2 = Q ∧ WF Z N T u.2.2) (Bw D D2 ad N T) A) 0 0 A := by
  refine Met_GG (lv0 := [(0, .ref (ad h0)), (1, .int x1), (2, .int x2)]) (by decide +kernel) [.ref (ad h0), .int x1, .int x2] (Nat.le_of_ble_eq_true rfl) rfl ?_
  intro p e s m below meth c C hr
  have C : CX p s m [.ref (ad h0), .int x1, .int x2].toArray meth c cX10_node 3 RX10 A D D2 := C
  unfold wp_X10_node at hw
  refine g_aload_n C dX10_node_0 rfl 0 rfl ?_
  refine g_getQ C dX10_node_1 ft_247 z0 (hWF.q z0 0 rfl) ?_
  have zz1 := hWF.r z0 0 rfl
  refine g_iload_n C dX10_node_4 rfl 1 rfl ?_
  refine g_callVi (As := [.int x1]) C dX10_node_5 ft_46 zz1 ft_258 ft_259 (met_X1_hasNode l hWF zz1 hw) ⟨rfl, rfl, Nat.le_of_ble_eq_true rfl, Nat.le_of_ble_eq_true rfl⟩ ⟨Nat.zero_le _, Nat.zero_le _⟩ rfl rfl (Nat.le_of_ble_eq_true rfl) (fun r2 I2 J2 Q2 hp => ?_)
  obtain ⟨hw, eI, eJ, eQ, hWF⟩ := hp
  have eI : I = I2 := Eq.symm eI
  subst eI
  have eJ : J = J2 := Eq.symm eJ
  subst eJ
  have eQ : Q = Q2 := Eq.symm eQ
  subst eQ
  try dsimp only at hw hWF
  refine g_if_ne (tgt := 13) C dX10_node_8 (by decide) (fun c3 => ?_) (fun c3 => ?_)
  · have hw := hw.1 c3
    refine g_iload_n C dX10_node_13 rfl 2 rfl ?_
    by_cases c4 : x2 = 0
    · have hw := hw.1 c4
      refine g_tableIn (tgt := 48) C dX10_node_14 (by rw [c4]; decide) (by rw [c4]; decide) (by rw [c4]; rfl) (by decide) ?_
      refine g_aload_n C dX10_node_48 rfl 0 rfl ?_
      refine g_getQ C dX10_node_49 ft_247 z0 (hWF.q z0 0 rfl) ?_
      have zz5 := hWF.r z0 0 rfl
      refine g_getQ C dX10_node_52 ft_249 zz5 (hWF.q zz5 1 rfl) ?_
      have zz6 := hWF.r zz5 1 rfl
      refine g_iload_n C dX10_node_55 rfl 1 rfl ?_
      have hrzz7 := rft_eS hw.1
      refine g_aaldS C dX10_node_56 zz6 hw.1 (hWF.q zz6 _ hrzz7) ?_
      have zz7 := hWF.r zz6 _ hrzz7
      have hw := hw.2
      refine g_callVi (As := []) C dX10_node_57 ft_22 zz7 ft_251 ft_32 (met_X7_rank l hWF zz7 hw) ⟨rfl, rfl, Nat.le_of_ble_eq_true rfl, Nat.le_of_ble_eq_true rfl⟩ ⟨Nat.zero_le _, Nat.zero_le _⟩ rfl rfl (Nat.le_of_ble_eq_true rfl) (fun r8 I8 J8 Q8 hp => ?_)
      obtain ⟨hw, eI, eJ, eQ, hWF⟩ := hp
      have eI : I = I8 := Eq.symm eI
      subst eI
      have eJ : J = J8 := Eq.symm eJ
      subst eJ
      have eQ : Q = Q8 := Eq.symm eQ
      subst eQ
      try dsimp only at hw hWF
      exact g_iret C dX10_node_60 hr ⟨hw, rfl, rfl, hWF⟩
    by_cases c9 : x2 = 1
    · have hw := hw.2.1 c9
      refine g_tableIn (tgt := 61) C dX10_node_14 (by rw [c9]; decide) (by rw [c9]; decide) (by rw [c9]; rfl) (by decide) ?_
      refine g_aload_n C dX10_node_61 rfl 0 rfl ?_
      refine g_getQ C dX10_node_62 ft_247 z0 (hWF.q z0 0 rfl) ?_
      have zz10 := hWF.r z0 0 rfl
      refine g_getQ C dX10_node_65 ft_249 zz10 (hWF.q zz10 1 rfl) ?_
      have zz11 := hWF.r zz10 1 rfl
      refine g_iload_n C dX10_node_68 rfl 1 rfl ?_
      have hrzz12 := rft_eS hw.1
      refine g_aaldS C dX10_node_69 zz11 hw.1 (hWF.q zz11 _ hrzz12) ?_
      have zz12 := hWF.r zz11 _ hrzz12
      have hw := hw.2
      refine g_callVi (As := []) C dX10_node_70 ft_22 zz12 ft_260 ft_151 (met_X7_told l hWF zz12 hw) ⟨rfl, rfl, Nat.le_of_ble_eq_true rfl, Nat.le_of_ble_eq_true rfl⟩ ⟨Nat.zero_le _, Nat.zero_le _⟩ rfl rfl (Nat.le_of_ble_eq_true rfl) (fun r13 I13 J13 Q13 hp => ?_)
      obtain ⟨hw, eI, eJ, eQ, hWF⟩ := hp
      have eI : I = I13 := Eq.symm eI
      subst eI
      have eJ : J = J13 := Eq.symm eJ
      subst eJ
      have eQ : Q = Q13 := Eq.symm eQ
      subst eQ
      try dsimp only at hw hWF
      exact g_iret C dX10_node_73 hr ⟨hw, rfl, rfl, hWF⟩
    by_cases c14 : x2 = 2
    · have hw := hw.2.2.1 c14
      refine g_tableIn (tgt := 74) C dX10_node_14 (by rw [c14]; decide) (by rw [c14]; decide) (by rw [c14]; rfl) (by decide) ?_
      refine g_aload_n C dX10_node_74 rfl 0 rfl ?_
      refine g_getQ C dX10_node_75 ft_247 z0 (hWF.q z0 0 rfl) ?_
      have zz15 := hWF.r z0 0 rfl
      refine g_getQ C dX10_node_78 ft_261 zz15 (hWF.q zz15 2 rfl) ?_
      have zz16 := hWF.r zz15 2 rfl
      refine g_iload_n C dX10_node_81 rfl 1 rfl ?_
      refine g_iald C dX10_node_82 zz16 hw.1 ?_
      have hw := hw.2
      exact g_iret C dX10_node_83 hr ⟨hw, rfl, rfl, hWF⟩
    by_cases c17 : x2 = 3
    · have hw := hw.2.2.2.1 c17
      refine g_tableIn (tgt := 84) C dX10_node_14 (by rw [c17]; decide) (by rw [c17]; decide) (by rw [c17]; rfl) (by decide) ?_
      refine g_aload_n C dX10_node_84 rfl 0 rfl ?_
      refine g_getQ C dX10_node_85 ft_247 z0 (hWF.q z0 0 rfl) ?_
      have zz18 := hWF.r z0 0 rfl
      refine g_aload_n C dX10_node_88 rfl 0 rfl ?_
      refine g_getQ C dX10_node_89 ft_247 z0 (hWF.q z0 0 rfl) ?_
      have zz19 := hWF.r z0 0 rfl
      refine g_getI C dX10_node_92 ft_262 zz19 ?_
      refine g_iload_n C dX10_node_95 rfl 1 rfl ?_
      refine g_callVi (As := [.int (I (rq Q h0 0) 7), .int x1]) C dX10_node_96 ft_46 zz18 ft_263 ft_45 (met_X1_neighbours l hWF zz18 hw) ⟨rfl, rfl, Nat.le_of_ble_eq_true rfl, Nat.le_of_ble_eq_true rfl⟩ ⟨Nat.zero_le _, Nat.zero_le _⟩ rfl rfl (Nat.le_of_ble_eq_true rfl) (fun r20 I20 J20 Q20 hp => ?_)
      obtain ⟨hw, eI, eJ, eQ, hWF⟩ := hp
      have eI : I = I20 := Eq.symm eI
      subst eI
      have eJ : J = J20 := Eq.symm eJ
      subst eJ
      have eQ : Q = Q20 := Eq.symm eQ
      subst eQ
      try dsimp only at hw hWF
      exact g_iret C dX10_node_99 hr ⟨hw, rfl, rfl, hWF⟩
    by_cases c21 : x2 = 4
    · have hw := hw.2.2.2.2.1 c21
      refine g_tableIn (tgt := 100) C dX10_node_14 (by rw [c21]; decide) (by rw [c21]; decide) (by rw [c21]; rfl) (by decide) ?_
      refine g_aload_n C dX10_node_100 rfl 0 rfl ?_
      refine g_getQ C dX10_node_101 ft_264 z0 (hWF.q z0 5 rfl) ?_
      have zz22 := hWF.r z0 5 rfl
      refine g_aload_n C dX10_node_104 rfl 0 rfl ?_
      refine g_getQ C dX10_node_105 ft_247 z0 (hWF.q z0 0 rfl) ?_
      have zz23 := hWF.r z0 0 rfl
      refine g_aload_n C dX10_node_108 rfl 0 rfl ?_
      refine g_getQ C dX10_node_109 ft_247 z0 (hWF.q z0 0 rfl) ?_
      have zz24 := hWF.r z0 0 rfl
      refine g_getI C dX10_node_112 ft_265 zz24 ?_
      refine g_callVv (As := [.ref (ad (rq Q h0 0)), .int (I (rq Q h0 0) 5)]) C dX10_node_115 ft_37 zz22 ft_267 ft_166 (met_X5_prepare l hWF zz22 zz23 hw) ⟨rfl, rfl, Nat.le_of_ble_eq_true rfl, Nat.le_of_ble_eq_true rfl⟩ ⟨Nat.zero_le _, Nat.zero_le _⟩ rfl rfl (Nat.le_of_ble_eq_true rfl) (fun I25 J25 Q25 hp => ?_)
      obtain ⟨hw, eJ, eQ, hWF⟩ := hp
      have eJ : J = J25 := Eq.symm eJ
      subst eJ
      have eQ : Q = Q25 := Eq.symm eQ
      subst eQ
      try dsimp only at hw hWF
      refine g_aload_n C dX10_node_118 rfl 0 rfl ?_
      refine g_getQ C dX10_node_119 ft_264 z0 (hWF.q z0 5 rfl) ?_
      have zz26 := hWF.r z0 5 rfl
      refine g_aload_n C dX10_node_122 rfl 0 rfl ?_
      refine g_getQ C dX10_node_123 ft_247 z0 (hWF.q z0 0 rfl) ?_
      have zz27 := hWF.r z0 0 rfl
      refine g_iload_n C dX10_node_126 rfl 1 rfl ?_
      refine g_aload_n C dX10_node_127 rfl 0 rfl ?_
      refine g_getQ C dX10_node_128 ft_247 z0 (hWF.q z0 0 rfl) ?_
      have zz28 := hWF.r z0 0 rfl
      refine g_aload_n C dX10_node_131 rfl 0 rfl ?_
      refine g_getQ C dX10_node_132 ft_247 z0 (hWF.q z0 0 rfl) ?_
      have zz29 := hWF.r z0 0 rfl
      refine g_getI C dX10_node_135 ft_262 zz29 ?_
      refine g_iload_n C dX10_node_138 rfl 1 rfl ?_
      refine g_callVi (As := [.int (I25 (rq Q h0 0) 7), .int x1]) C dX10_node_139 ft_46 zz28 ft_263 ft_45 (met_X1_neighbours l hWF zz28 hw) ⟨rfl, rfl, Nat.le_of_ble_eq_true rfl, Nat.le_of_ble_eq_true rfl⟩ ⟨Nat.zero_le _, Nat.zero_le _⟩ rfl rfl (Nat.le_of_ble_eq_true rfl) (fun r30 I30 J30 Q30 hp => ?_)
      obtain ⟨hw, eI, eJ, eQ, hWF⟩ := hp
      have eI : I25 = I30 := Eq.symm eI
      subst eI
      have eJ : J = J30 := Eq.symm eJ
      subst eJ
      have eQ : Q = Q30 := Eq.symm eQ
      subst eQ
      try dsimp only at hw hWF
      refine g_callVi (As := [.ref (ad (rq Q h0 0)), .int x1, .int r30]) C dX10_node_142 ft_37 zz26 ft_266 ft_43 (met_X5_growth l hWF zz26 zz27 hw) ⟨rfl, rfl, Nat.le_of_ble_eq_true rfl, Nat.le_of_ble_eq_true rfl⟩ ⟨Nat.zero_le _, Nat.zero_le _⟩ rfl rfl (Nat.le_of_ble_eq_true rfl) (fun r31 I31 J31 Q31 hp => ?_)
      obtain ⟨hw, eJ, eQ, hWF⟩ := hp
      have eJ : J = J31 := Eq.symm eJ
      subst eJ
      have eQ : Q = Q31 := Eq.symm eQ
      subst eQ
      try dsimp only at hw hWF
      exact g_iret C dX10_node_145 hr ⟨hw, rfl, rfl, hWF⟩
    have hw := hw.2.2.2.2.2 c4 c9 c14 c17 c21
    refine g_tableOut (tgt := 146) C dX10_node_14 (sw_out (fun v h1 h2 => by rcases (show v = 0 ∨ v = 1 ∨ v = 2 ∨ v = 3 ∨ v = 4 by omega) with rfl | rfl | rfl | rfl | rfl <;> first | exact c4 | exact c9 | exact c14 | exact c17 | exact c21)) (by decide) ?_
    refine g_iconst (v := (-1 : Int32)) C dX10_node_146 (by decide) ?_
    exact g_iret C dX10_node_147 hr ⟨hw, rfl, rfl, hWF⟩
  · have hw := hw.2 c3
    refine g_iconst (v := (-1 : Int32)) C dX10_node_11 (by decide) ?_
    exact g_iret C dX10_node_12 hr ⟨hw, rfl, rfl, hWF⟩
def wp_X10_sum (I : KI) (Q : KQ) (h0 : Nat) (x1 : Int32) (x2 : Int32) (post : Int32 → Prop) : Prop := wp_X1_hasNode I (rq Q h0 0) x1 (fun r2 => ((r2 = 0 → post (-1 : Int32)) ∧ (¬ r2 = 0 → ((0 ≤ x2 → (vp_in x1 6 ∧ wp_X7_rank I Q (rq Q (rq Q (rq Q h0 0) 1) x1.toNatClampNeg) (fun r8 => ((r8 ≤ x2 → post (-4 : Int32)) ∧ (¬ r8 ≤ x2 → (vp_in x1 6 ∧ wp_X7_row I Q (rq Q (rq Q (rq Q h0 0) 1) x1.toNatClampNeg) x2 (fun r13 => post r13))))))) ∧ (¬ 0 ≤ x2 → post (-1 : Int32))))))
set_option maxHeartbeats 4000000 in
set_option maxRecDepth 100000 in
theorem met_X10_sum {Z : Nat → Prop} {A : Nat → Prop} {D : va_G} {D2 : Nat → ClassId} {ad : Nat → Nat} {N : Nat} {T : Nat → Nat × Nat} (l : Launch) {I : KI} {J : KJ} {Q : KQ} {h0 : Nat} {x1 : Int32} {x2 : Int32} {post : Int32 → Prop} (hWF : WF Z N T Q) (z0 : OKr Z N T h0 (10, 0)) (hw : wp_X10_sum I Q h0 x1 x2 post) : Met l yX10_sum (.code yX10_sum cX10_sum 3 (some .int) :: BIG) ({ frames := 1, cells := 0, slots := 0, locals := 23 }) (Pr D D2 A ad N T I J Q [.ref (ad h0), .int x1, .int x2]) (va_Qi (fun (r : Int32) (u : KS) => post r ∧ u.1 = I ∧ u.2.1 = J ∧ u.2.2 = Q ∧ WF Z N T u.2.2) (Bw D D2 ad N T) A) 0 0 A := by
  refine Met_GG (lv0 := [(0, .ref (ad h0)), (1, .int x1), (2, .int x2)]) (by decide +kernel) [.ref (ad h0), .int x1, .int x2] (Nat.le_of_ble_eq_true rfl) rfl ?_
  intro p e s m below meth c C hr
  have C : CX p s m [.ref (ad h0), .int x1, .int x2].toArray meth c cX10_sum 3 RX10 A D D2 := C
  unfold wp_X10_sum at hw
  refine g_aload_n C dX10_sum_0 rfl 0 rfl ?_
  refine g_getQ C dX10_sum_1 ft_247 z0 (hWF.q z0 0 rfl) ?_
  have zz1 := hWF.r z0 0 rfl
  refine g_iload_n C dX10_sum_4 rfl 1 rfl ?_
  refine g_callVi (As := [.int x1]) C dX10_sum_5 ft_46 zz1 ft_258 ft_259 (met_X1_hasNode l hWF zz1 hw) ⟨rfl, rfl, Nat.le_of_ble_eq_true rfl, Nat.le_of_ble_eq_true rfl⟩ ⟨Nat.zero_le _, Nat.zero_le _⟩ rfl rfl (Nat.le_of_ble_eq_true rfl) (fun r2 I2 J2 Q2 hp => ?_)
  obtain ⟨hw, eI, eJ, eQ, hWF⟩ := hp
  have eI : I = I2 := Eq.symm eI
  subst eI
  have eJ : J = J2 := Eq.symm eJ
  subst eJ
  have eQ : Q = Q2 := Eq.symm eQ
  subst eQ
  try dsimp only at hw hWF
  refine g_if_eq (tgt := 15) C dX10_sum_8 (by decide) (fun c3 => ?_) (fun c3 => ?_)
  · have hw := hw.1 c3
    refine g_iconst (v := (-1 : Int32)) C dX10_sum_15 (by decide) ?_
    exact g_iret C dX10_sum_16 hr ⟨hw, rfl, rfl, rfl, hWF⟩
  · have hw := hw.2 c3
    refine g_iload_n C dX10_sum_11 rfl 2 rfl ?_
    refine g_if_ge (tgt := 17) C dX10_sum_12 (by decide) (fun c4 => ?_) (fun c4 => ?_)
    · have hw := hw.1 c4
      refine g_iload_n C dX10_sum_17 rfl 2 rfl ?_
      refine g_aload_n C dX10_sum_18 rfl 0 rfl ?_
      refine g_getQ C dX10_sum_19 ft_247 z0 (hWF.q z0 0 rfl) ?_
      have zz5 := hWF.r z0 0 rfl
      refine g_getQ C dX10_sum_22 ft_249 zz5 (hWF.q zz5 1 rfl) ?_
      have zz6 := hWF.r zz5 1 rfl
      refine g_iload_n C dX10_sum_25 rfl 1 rfl ?_
      have hrzz7 := rft_eS hw.1
      refine g_aaldS C dX10_sum_26 zz6 hw.1 (hWF.q zz6 _ hrzz7) ?_
      have zz7 := hWF.r zz6 _ hrzz7
      have hw := hw.2
      refine g_callVi (As := []) C dX10_sum_27 ft_22 zz7 ft_251 ft_32 (met_X7_rank l hWF zz7 hw) ⟨rfl, rfl, Nat.le_of_ble_eq_true rfl, Nat.le_of_ble_eq_true rfl⟩ ⟨Nat.zero_le _, Nat.zero_le _⟩ rfl rfl (Nat.le_of_ble_eq_true rfl) (fun r8 I8 J8 Q8 hp => ?_)
      obtain ⟨hw, eI, eJ, eQ, hWF⟩ := hp
      have eI : I = I8 := Eq.symm eI
      subst eI
      have eJ : J = J8 := Eq.symm eJ
      subst eJ
      have eQ : Q = Q8 := Eq.symm eQ
      subst eQ
      try dsimp only at hw hWF
      refine g_icmp_ge (tgt := 49) C dX10_sum_30 (by decide) (fun c9 => ?_) (fun c9 => ?_)
      · have hw := hw.1 c9
        refine g_bipush (v := (-4 : Int32)) C dX10_sum_49 (by decide) ?_
        exact g_iret C dX10_sum_51 hr ⟨hw, rfl, rfl, rfl, hWF⟩
      · have hw := hw.2 c9
        refine g_aload_n C dX10_sum_33 rfl 0 rfl ?_
        refine g_getQ C dX10_sum_34 ft_247 z0 (hWF.q z0 0 rfl) ?_
        have zz10 := hWF.r z0 0 rfl
        refine g_getQ C dX10_sum_37 ft_249 zz10 (hWF.q zz10 1 rfl) ?_
        have zz11 := hWF.r zz10 1 rfl
        refine g_iload_n C dX10_sum_40 rfl 1 rfl ?_
        have hrzz12 := rft_eS hw.1
        refine g_aaldS C dX10_sum_41 zz11 hw.1 (hWF.q zz11 _ hrzz12) ?_
        have zz12 := hWF.r zz11 _ hrzz12
        have hw := hw.2
        refine g_iload_n C dX10_sum_42 rfl 2 rfl ?_
        refine g_callVi (As := [.int x2]) C dX10_sum_43 ft_22 zz12 ft_268 ft_269 (met_X7_row l hWF zz12 hw) ⟨rfl, rfl, Nat.le_of_ble_eq_true rfl, Nat.le_of_ble_eq_true rfl⟩ ⟨Nat.zero_le _, Nat.zero_le _⟩ rfl rfl (Nat.le_of_ble_eq_true rfl) (fun r13 I13 J13 Q13 hp => ?_)
        obtain ⟨hw, eI, eJ, eQ, hWF⟩ := hp
        have eI : I = I13 := Eq.symm eI
        subst eI
        have eJ : J = J13 := Eq.symm eJ
        subst eJ
        have eQ : Q = Q13 := Eq.symm eQ
        subst eQ
        try dsimp only at hw hWF
        refine g_goto C dX10_sum_46 (tgt := 51) (by decide) ?_
        exact g_iret C dX10_sum_51 hr ⟨hw, rfl, rfl, rfl, hWF⟩
    · have hw := hw.2 c4
      refine g_iconst (v := (-1 : Int32)) C dX10_sum_15 (by decide) ?_
      exact g_iret C dX10_sum_16 hr ⟨hw, rfl, rfl, rfl, hWF⟩
