def wp_X10_joined (I : KI) (J : KJ) (Q : KQ) (h0 : Nat) (x1 : Int32) (x2 : Int32) (post : Int64 → KJ → Prop) : Prop := ((x1 < 0 → post (-1 : Int64) J) ∧ (¬ x1 < 0 → (((10 : Int32) < x1 → post (-1 : Int64) J) ∧ (¬ (10 : Int32) < x1 → ((x2 < 0 → post (-1 : Int64) J) ∧ (¬ x2 < 0 → ((x2 ≤ (1 : Int32) → wp_X2_reckon I J Q (rq Q h0 8) (rq Q h0 0) x1 (fun J7 => ((¬ x2 = 0 → post (J7 (rq Q h0 8) 2) J7) ∧ (x2 = 0 → post (J7 (rq Q h0 8) 1) J7)))) ∧ (¬ x2 ≤ (1 : Int32) → post (-1 : Int64) J))))))))
set_option maxHeartbeats 4000000 in
set_option maxRecDepth 100000 in
theorem met_X10_joined {Z : Nat → Prop} {A : Nat → Prop} {D : va_G} {D2 : Nat → ClassId} {ad : Nat → Nat} {N : Nat} {T : Nat → Nat × Nat} (l : Launch) {I : KI} {J : KJ} {Q : KQ} {h0 : Nat} {x1 : Int32} {x2 : Int32} {post : Int64 → KJ → Prop} (hWF : WF Z N T Q) (z0 : OKr Z N T h0 (10, 0)) (hw : wp_X10_joined I J Q h0 x1 x2 post) : Met l yX10_joined (.code yX10_joined cX10_joined 3 (some .long) :: BIG) ({ frames := 6, cells := 0, slots := 0, locals := 141 }) (Pr D D2 A ad N T I J Q [.ref (ad h0), .int x1, .int x2]) (va_Ql (fun (r : Int64) (u : KS) => post r u.2.1 ∧ u.1 = I ∧ u.2.2 = Q ∧ WF Z N T u.2.2) (Bw D D2 ad N T) A) 0 0 A := by
  refine Met_GG (lv0 := [(0, .ref (ad h0)), (1, .int x1), (2, .int x2)]) (by decide +kernel) [.ref (ad h0), .int x1, .int x2] (Nat.le_of_ble_eq_true rfl) rfl ?_
  intro p e s m below meth c C hr
  have C : CX p s m [.ref (ad h0), .int x1, .int x2].toArray meth c cX10_joined 3 RX10 A D D2 := C
  unfold wp_X10_joined at hw
  refine g_iload_n C dX10_joined_0 rfl 1 rfl ?_
  refine g_if_lt (tgt := 19) C dX10_joined_1 (by decide) (fun c1 => ?_) (fun c1 => ?_)
  · have hw := hw.1 c1
    refine g_ldc2 C dX10_joined_19 ft_268 ?_
    exact g_lret C dX10_joined_22 hr ⟨hw, rfl, rfl, hWF⟩
  · have hw := hw.2 c1
    refine g_iload_n C dX10_joined_4 rfl 1 rfl ?_
    refine g_bipush (v := (10 : Int32)) C dX10_joined_5 (by decide) ?_
    refine g_icmp_gt (tgt := 19) C dX10_joined_7 (by decide) (fun c2 => ?_) (fun c2 => ?_)
    · have hw := hw.1 c2
      refine g_ldc2 C dX10_joined_19 ft_268 ?_
      exact g_lret C dX10_joined_22 hr ⟨hw, rfl, rfl, hWF⟩
    · have hw := hw.2 c2
      refine g_iload_n C dX10_joined_10 rfl 2 rfl ?_
      refine g_if_lt (tgt := 19) C dX10_joined_11 (by decide) (fun c3 => ?_) (fun c3 => ?_)
      · have hw := hw.1 c3
        refine g_ldc2 C dX10_joined_19 ft_268 ?_
        exact g_lret C dX10_joined_22 hr ⟨hw, rfl, rfl, hWF⟩
      · have hw := hw.2 c3
        refine g_iload_n C dX10_joined_14 rfl 2 rfl ?_
        refine g_iconst (v := (1 : Int32)) C dX10_joined_15 (by decide) ?_
        refine g_icmp_le (tgt := 23) C dX10_joined_16 (by decide) (fun c4 => ?_) (fun c4 => ?_)
        · have hw := hw.1 c4
          refine g_aload_n C dX10_joined_23 rfl 0 rfl ?_
          refine g_getQ C dX10_joined_24 ft_269 z0 (hWF.q z0 8 rfl) ?_
          have zz5 := hWF.r z0 8 rfl
          refine g_aload_n C dX10_joined_27 rfl 0 rfl ?_
          refine g_getQ C dX10_joined_28 ft_216 z0 (hWF.q z0 0 rfl) ?_
          have zz6 := hWF.r z0 0 rfl
          refine g_iload_n C dX10_joined_31 rfl 1 rfl ?_
          refine g_callVv (As := [.ref (ad (rq Q h0 0)), .int x1]) C dX10_joined_32 ft_122 zz5 ft_272 ft_273 (met_X2_reckon l hWF zz5 zz6 hw) ⟨rfl, rfl, Nat.le_of_ble_eq_true rfl, Nat.le_of_ble_eq_true rfl⟩ ⟨Nat.zero_le _, Nat.zero_le _⟩ rfl rfl (Nat.le_of_ble_eq_true rfl) (fun I7 J7 Q7 hp => ?_)
          obtain ⟨hw, eI, eQ, hWF⟩ := hp
          have eI : I = I7 := Eq.symm eI
          subst eI
          have eQ : Q = Q7 := Eq.symm eQ
          subst eQ
          try dsimp only at hw hWF
          refine g_iload_n C dX10_joined_35 rfl 2 rfl ?_
          refine g_if_ne (tgt := 49) C dX10_joined_36 (by decide) (fun c8 => ?_) (fun c8 => ?_)
          · have hw := hw.1 c8
            refine g_aload_n C dX10_joined_49 rfl 0 rfl ?_
            refine g_getQ C dX10_joined_50 ft_269 z0 (hWF.q z0 8 rfl) ?_
            have zz9 := hWF.r z0 8 rfl
            refine g_getJ C dX10_joined_53 ft_270 zz9 ?_
            exact g_lret C dX10_joined_56 hr ⟨hw, rfl, rfl, hWF⟩
          · have hw := hw.2 c8
            refine g_aload_n C dX10_joined_39 rfl 0 rfl ?_
            refine g_getQ C dX10_joined_40 ft_269 z0 (hWF.q z0 8 rfl) ?_
            have zz10 := hWF.r z0 8 rfl
            refine g_getJ C dX10_joined_43 ft_271 zz10 ?_
            refine g_goto C dX10_joined_46 (tgt := 56) (by decide) ?_
            exact g_lret C dX10_joined_56 hr ⟨hw, rfl, rfl, hWF⟩
        · have hw := hw.2 c4
          refine g_ldc2 C dX10_joined_19 ft_268 ?_
          exact g_lret C dX10_joined_22 hr ⟨hw, rfl, rfl, hWF⟩
def wp_X10_tell (I : KI) (Q : KQ) (h0 : Nat) (x1 : Int32) (x2 : Int32) (post : Int32 → KI → KQ → Prop) : Prop := wp_X1_mayBecome (rq Q h0 0) x1 x2 (fun r2 => ((¬ r2 = 0 → wp_X1_setting I (rq Q h0 0) x1 (fun r5 => ((¬ r5 = x2 → wp_X3_keep I Q (rq Q h0 1) (rq Q h0 0) (fun I9 Q9 => wp_X1_become I9 Q9 (rq Q9 h0 0) x1 x2 (fun I11 => post r5 I11 Q9))) ∧ (r5 = x2 → post (-2 : Int32) I Q)))) ∧ (r2 = 0 → post (-1 : Int32) I Q)))
set_option maxHeartbeats 4000000 in
set_option maxRecDepth 100000 in
theorem met_X10_tell {Z : Nat → Prop} {A : Nat → Prop} {D : va_G} {D2 : Nat → ClassId} {ad : Nat → Nat} {N : Nat} {T : Nat → Nat × Nat} (l : Launch) {I : KI} {J : KJ} {Q : KQ} {h0 : Nat} {x1 : Int32} {x2 : Int32} {post : Int32 → KI → KQ → Prop} (hWF : WF Z N T Q) (z0 : OKr Z N T h0 (10, 0)) (hw : wp_X10_tell I Q h0 x1 x2 post) : Met l yX10_tell (.code yX10_tell cX10_tell 4 (some .int) :: BIG) ({ frames := 4, cells := 0, slots := 0, locals := 104 }) (Pr D D2 A ad N T I J Q [.ref (ad h0), .int x1, .int x2]) (va_Qi (fun (r : Int32) (u : KS) => post r u.1 u.2.2 ∧ u.2.1 = J ∧ WF Z N T u.2.2) (Bw D D2 ad N T) A) 0 0 A := by
  refine Met_GG (lv0 := [(0, .ref (ad h0)), (1, .int x1), (2, .int x2)]) (by decide +kernel) [.ref (ad h0), .int x1, .int x2] (Nat.le_of_ble_eq_true rfl) rfl ?_
  intro p e s m below meth c C hr
  have C : CX p s m [.ref (ad h0), .int x1, .int x2].toArray meth c cX10_tell 4 RX10 A D D2 := C
  unfold wp_X10_tell at hw
  refine g_aload_n C dX10_tell_0 rfl 0 rfl ?_
  refine g_getQ C dX10_tell_1 ft_216 z0 (hWF.q z0 0 rfl) ?_
  have zz1 := hWF.r z0 0 rfl
  refine g_iload_n C dX10_tell_4 rfl 1 rfl ?_
  refine g_iload_n C dX10_tell_5 rfl 2 rfl ?_
  refine g_callVi (As := [.int x1, .int x2]) C dX10_tell_6 ft_46 zz1 ft_278 ft_279 (met_X1_mayBecome l hWF zz1 hw) ⟨rfl, rfl, Nat.le_of_ble_eq_true rfl, Nat.le_of_ble_eq_true rfl⟩ ⟨Nat.zero_le _, Nat.zero_le _⟩ rfl rfl (Nat.le_of_ble_eq_true rfl) (fun r2 I2 J2 Q2 hp => ?_)
  obtain ⟨hw, eI, eJ, eQ, hWF⟩ := hp
  have eI : I = I2 := Eq.symm eI
  subst eI
  have eJ : J = J2 := Eq.symm eJ
  subst eJ
  have eQ : Q = Q2 := Eq.symm eQ
  subst eQ
  try dsimp only at hw hWF
  refine g_if_ne (tgt := 14) C dX10_tell_9 (by decide) (fun c3 => ?_) (fun c3 => ?_)
  · have hw := hw.1 c3
    refine g_aload_n C dX10_tell_14 rfl 0 rfl ?_
    refine g_getQ C dX10_tell_15 ft_216 z0 (hWF.q z0 0 rfl) ?_
    have zz4 := hWF.r z0 0 rfl
    refine g_iload_n C dX10_tell_18 rfl 1 rfl ?_
    refine g_callVi (As := [.int x1]) C dX10_tell_19 ft_46 zz4 ft_276 ft_277 (met_X1_setting l hWF zz4 hw) ⟨rfl, rfl, Nat.le_of_ble_eq_true rfl, Nat.le_of_ble_eq_true rfl⟩ ⟨Nat.zero_le _, Nat.zero_le _⟩ rfl rfl (Nat.le_of_ble_eq_true rfl) (fun r5 I5 J5 Q5 hp => ?_)
    obtain ⟨hw, eI, eJ, eQ, hWF⟩ := hp
    have eI : I = I5 := Eq.symm eI
    subst eI
    have eJ : J = J5 := Eq.symm eJ
    subst eJ
    have eQ : Q = Q5 := Eq.symm eQ
    subst eQ
    try dsimp only at hw hWF
    refine g_istore_n (lv' := [(3, .int r5), (0, .ref (ad h0)), (1, .int x1), (2, .int x2)]) C dX10_tell_22 rfl (by decide) rfl ?_
    refine g_iload_n C dX10_tell_23 rfl 0 rfl ?_
    refine g_iload_n C dX10_tell_24 rfl 3 rfl ?_
    refine g_icmp_ne (tgt := 31) C dX10_tell_25 (by decide) (fun c6 => ?_) (fun c6 => ?_)
    · have hw := hw.1 c6
      refine g_aload_n C dX10_tell_31 rfl 1 rfl ?_
      refine g_getQ C dX10_tell_32 ft_219 z0 (hWF.q z0 1 rfl) ?_
      have zz7 := hWF.r z0 1 rfl
      refine g_aload_n C dX10_tell_35 rfl 1 rfl ?_
      refine g_getQ C dX10_tell_36 ft_216 z0 (hWF.q z0 0 rfl) ?_
      have zz8 := hWF.r z0 0 rfl
      refine g_callVv (As := [.ref (ad (rq Q h0 0))]) C dX10_tell_39 ft_133 zz7 ft_222 ft_223 (met_X3_keep l hWF zz7 zz8 hw) ⟨rfl, rfl, Nat.le_of_ble_eq_true rfl, Nat.le_of_ble_eq_true rfl⟩ ⟨Nat.zero_le _, Nat.zero_le _⟩ rfl rfl (Nat.le_of_ble_eq_true rfl) (fun I9 J9 Q9 hp => ?_)
      obtain ⟨hw, eJ, hWF⟩ := hp
      have eJ : J = J9 := Eq.symm eJ
      subst eJ
      try dsimp only at hw hWF
      refine g_aload_n C dX10_tell_42 rfl 1 rfl ?_
      refine g_getQ C dX10_tell_43 ft_216 z0 (hWF.q z0 0 rfl) ?_
      have zz10 := hWF.r z0 0 rfl
      refine g_iload_n C dX10_tell_46 rfl 2 rfl ?_
      refine g_iload_n C dX10_tell_47 rfl 3 rfl ?_
      refine g_callVv (As := [.int x1, .int x2]) C dX10_tell_48 ft_46 zz10 ft_274 ft_275 (met_X1_become l hWF zz10 hw) ⟨rfl, rfl, Nat.le_of_ble_eq_true rfl, Nat.le_of_ble_eq_true rfl⟩ ⟨Nat.zero_le _, Nat.zero_le _⟩ rfl rfl (Nat.le_of_ble_eq_true rfl) (fun I11 J11 Q11 hp => ?_)
      obtain ⟨hw, eJ, eQ, hWF⟩ := hp
      have eJ : J = J11 := Eq.symm eJ
      subst eJ
      have eQ : Q9 = Q11 := Eq.symm eQ
      subst eQ
      try dsimp only at hw hWF
      refine g_iload_n C dX10_tell_51 rfl 0 rfl ?_
      exact g_iret C dX10_tell_52 hr ⟨hw, rfl, hWF⟩
    · have hw := hw.2 c6
      refine g_bipush (v := (-2 : Int32)) C dX10_tell_28 (by decide) ?_
      exact g_iret C dX10_tell_30 hr ⟨hw, rfl, hWF⟩
  · have hw := hw.2 c3
    refine g_iconst (v := (-1 : Int32)) C dX10_tell_12 (by decide) ?_
    exact g_iret C dX10_tell_13 hr ⟨hw, rfl, hWF⟩
def wp_X10_type (I : KI) (Q : KQ) (h0 : Nat) (x1 : Int32) (post : Int32 → KI → Prop) : Prop := ((x1 < (32 : Int32) → post (-1 : Int32) I) ∧ (¬ x1 < (32 : Int32) → ((x1 ≤ (126 : Int32) → wp_X8_append I Q (rq Q h0 9) ((x1.toUInt32 % 65536).toInt32) (fun r4 I4 => ((r4 = 0 → post (-3 : Int32) I4) ∧ (¬ r4 = 0 → post (I4 (rq Q h0 9) 2) I4)))) ∧ (¬ x1 ≤ (126 : Int32) → post (-1 : Int32) I))))
set_option maxHeartbeats 4000000 in
set_option maxRecDepth 100000 in
theorem met_X10_type {Z : Nat → Prop} {A : Nat → Prop} {D : va_G} {D2 : Nat → ClassId} {ad : Nat → Nat} {N : Nat} {T : Nat → Nat × Nat} (l : Launch) {I : KI} {J : KJ} {Q : KQ} {h0 : Nat} {x1 : Int32} {post : Int32 → KI → Prop} (hWF : WF Z N T Q) (z0 : OKr Z N T h0 (10, 0)) (hw : wp_X10_type I Q h0 x1 post) : Met l yX10_type (.code yX10_type cX10_type 2 (some .int) :: BIG) ({ frames := 1, cells := 0, slots := 0, locals := 21 }) (Pr D D2 A ad N T I J Q [.ref (ad h0), .int x1]) (va_Qi (fun (r : Int32) (u : KS) => post r u.1 ∧ u.2.1 = J ∧ u.2.2 = Q ∧ WF Z N T u.2.2) (Bw D D2 ad N T) A) 0 0 A := by
  refine Met_GG (lv0 := [(0, .ref (ad h0)), (1, .int x1)]) (by decide +kernel) [.ref (ad h0), .int x1] (Nat.le_of_ble_eq_true rfl) rfl ?_
  intro p e s m below meth c C hr
  have C : CX p s m [.ref (ad h0), .int x1].toArray meth c cX10_type 2 RX10 A D D2 := C
  unfold wp_X10_type at hw
  refine g_iload_n C dX10_type_0 rfl 1 rfl ?_
  refine g_bipush (v := (32 : Int32)) C dX10_type_1 (by decide) ?_
  refine g_icmp_lt (tgt := 12) C dX10_type_3 (by decide) (fun c1 => ?_) (fun c1 => ?_)
  · have hw := hw.1 c1
    refine g_iconst (v := (-1 : Int32)) C dX10_type_12 (by decide) ?_
    exact g_iret C dX10_type_13 hr ⟨hw, rfl, rfl, hWF⟩
  · have hw := hw.2 c1
    refine g_iload_n C dX10_type_6 rfl 1 rfl ?_
    refine g_bipush (v := (126 : Int32)) C dX10_type_7 (by decide) ?_
    refine g_icmp_le (tgt := 14) C dX10_type_9 (by decide) (fun c2 => ?_) (fun c2 => ?_)
    · have hw := hw.1 c2
      refine g_aload_n C dX10_type_14 rfl 0 rfl ?_
      refine g_getQ C dX10_type_15 ft_280 z0 (hWF.q z0 9 rfl) ?_
      have zz3 := hWF.r z0 9 rfl
      refine g_iload_n C dX10_type_18 rfl 1 rfl ?_
      refine g_i2c C dX10_type_19 ?_
      refine g_callVi (As := [.int ((x1.toUInt32 % 65536).toInt32)]) C dX10_type_20 ft_186 zz3 ft_282 ft_283 (met_X8_append l hWF zz3 hw) ⟨rfl, rfl, Nat.le_of_ble_eq_true rfl, Nat.le_of_ble_eq_true rfl⟩ ⟨Nat.zero_le _, Nat.zero_le _⟩ rfl rfl (Nat.le_of_ble_eq_true rfl) (fun r4 I4 J4 Q4 hp => ?_)
      obtain ⟨hw, eJ, eQ, hWF⟩ := hp
      have eJ : J = J4 := Eq.symm eJ
      subst eJ
      have eQ : Q = Q4 := Eq.symm eQ
      subst eQ
      try dsimp only at hw hWF
      refine g_if_eq (tgt := 36) C dX10_type_23 (by decide) (fun c5 => ?_) (fun c5 => ?_)
      · have hw := hw.1 c5
        refine g_bipush (v := (-3 : Int32)) C dX10_type_36 (by decide) ?_
        exact g_iret C dX10_type_38 hr ⟨hw, rfl, rfl, hWF⟩
      · have hw := hw.2 c5
        refine g_aload_n C dX10_type_26 rfl 0 rfl ?_
        refine g_getQ C dX10_type_27 ft_280 z0 (hWF.q z0 9 rfl) ?_
        have zz6 := hWF.r z0 9 rfl
        refine g_getI C dX10_type_30 ft_281 zz6 ?_
        refine g_goto C dX10_type_33 (tgt := 38) (by decide) ?_
        exact g_iret C dX10_type_38 hr ⟨hw, rfl, rfl, hWF⟩
    · have hw := hw.2 c2
      refine g_iconst (v := (-1 : Int32)) C dX10_type_12 (by decide) ?_
      exact g_iret C dX10_type_13 hr ⟨hw, rfl, rfl, hWF⟩
def wp_X10_turn (I : KI) (Q : KQ) (h0 : Nat) (post : KI → Prop) : Prop := wp_X10_changed (I (rq Q h0 0) 8) (fun r3 => wp_X10_drawn ((sti I (rq Q h0 0) 8 r3) (rq Q h0 0) 8) (fun r5 => (((r5 - r5 / (4 : Int32) * (4 : Int32)) = 0 → wp_X5_pass (sti I (rq Q h0 0) 8 r3) Q (rq Q h0 5) (rq Q h0 0) (fun I9 => post I9)) ∧ ((r5 - r5 / (4 : Int32) * (4 : Int32)) = 3 → post (sti (sti I (rq Q h0 0) 8 r3) (rq Q h0 0) 5 ((r5 / (4 : Int32)) - (r5 / (4 : Int32)) / (4 : Int32) * (4 : Int32)))) ∧ (¬ (r5 - r5 / (4 : Int32) * (4 : Int32)) = 0 → ¬ (r5 - r5 / (4 : Int32) * (4 : Int32)) = 3 → wp_X10_leftOver (r5 / (4 : Int32)) ((sti I (rq Q h0 0) 8 r3) (rq Q h0 0) 3) (fun r15 => (vp_in r15 6 ∧ wp_X10_leftOver (r5 / (64 : Int32)) ((sti I (rq Q h0 0) 8 r3) (rq Q h0 0) 4) (fun r18 => wp_X7_add (sti I (rq Q h0 0) 8 r3) Q (rq Q (rq Q (rq Q h0 0) 1) r15.toNatClampNeg) ((1 : Int32) <<< (r18 &&& 31)) (fun r19 I19 => post I19))))))))
set_option maxHeartbeats 4000000 in
set_option maxRecDepth 100000 in
theorem met_X10_turn {Z : Nat → Prop} {A : Nat → Prop} {D : va_G} {D2 : Nat → ClassId} {ad : Nat → Nat} {N : Nat} {T : Nat → Nat × Nat} (l : Launch) {I : KI} {J : KJ} {Q : KQ} {h0 : Nat} {post : KI → Prop} (hWF : WF Z N T Q) (z0 : OKr Z N T h0 (10, 0)) (hw : wp_X10_turn I Q h0 post) : Met l yX10_turn (.code yX10_turn cX10_turn 2 none :: BIG) ({ frames := 5, cells := 0, slots := 0, locals := 118 }) (Pr D D2 A ad N T I J Q [.ref (ad h0)]) (va_Qv (fun (u : KS) => post u.1 ∧ u.2.1 = J ∧ u.2.2 = Q ∧ WF Z N T u.2.2) (Bw D D2 ad N T) A) 0 0 A := by
  refine Met_GG (lv0 := [(0, .ref (ad h0))]) (by decide +kernel) [.ref (ad h0)] (Nat.le_of_ble_eq_true rfl) rfl ?_
  intro p e s m below meth c C hr
  have C : CX p s m [.ref (ad h0)].toArray meth c cX10_turn 2 RX10 A D D2 := C
  unfold wp_X10_turn at hw
  refine g_aload_n C dX10_turn_0 rfl 0 rfl ?_
  refine g_getQ C dX10_turn_1 ft_216 z0 (hWF.q z0 0 rfl) ?_
  have zz1 := hWF.r z0 0 rfl
  refine g_aload_n C dX10_turn_4 rfl 0 rfl ?_
  refine g_getQ C dX10_turn_5 ft_216 z0 (hWF.q z0 0 rfl) ?_
  have zz2 := hWF.r z0 0 rfl
  refine g_getI C dX10_turn_8 ft_284 zz2 ?_
  refine g_callSi (As := [.int (I (rq Q h0 0) 8)]) C dX10_turn_11 ft_290 ft_147 (met_X10_changed l hWF  hw) ⟨rfl, rfl, Nat.le_of_ble_eq_true rfl, Nat.le_of_ble_eq_true rfl⟩ ⟨Nat.zero_le _, Nat.zero_le _⟩ rfl rfl (Nat.le_of_ble_eq_true rfl) (fun r3 I3 J3 Q3 hp => ?_)
  obtain ⟨hw, eI, eJ, eQ, hWF⟩ := hp
  have eI : I = I3 := Eq.symm eI
  subst eI
  have eJ : J = J3 := Eq.symm eJ
  subst eJ
  have eQ : Q = Q3 := Eq.symm eQ
  subst eQ
  try dsimp only at hw hWF
  refine g_putI C dX10_turn_14 ft_285 zz1 ?_
  refine g_aload_n C dX10_turn_17 rfl 0 rfl ?_
  refine g_getQ C dX10_turn_18 ft_216 z0 (hWF.q z0 0 rfl) ?_
  have zz4 := hWF.r z0 0 rfl
  refine g_getI C dX10_turn_21 ft_284 zz4 ?_
  refine g_callSi (As := [.int ((sti I (rq Q h0 0) 8 r3) (rq Q h0 0) 8)]) C dX10_turn_24 ft_289 ft_145 (met_X10_drawn l hWF  hw) ⟨rfl, rfl, Nat.le_of_ble_eq_true rfl, Nat.le_of_ble_eq_true rfl⟩ ⟨Nat.zero_le _, Nat.zero_le _⟩ rfl rfl (Nat.le_of_ble_eq_true rfl) (fun r5 I5 J5 Q5 hp => ?_)
  obtain ⟨hw, eI, eJ, eQ, hWF⟩ := hp
  have eI : (sti I (rq Q h0 0) 8 r3) = I5 := Eq.symm eI
  subst eI
  have eJ : J = J5 := Eq.symm eJ
  subst eJ
  have eQ : Q = Q5 := Eq.symm eQ
  subst eQ
  try dsimp only at hw hWF
  refine g_istore_n (lv' := [(1, .int r5), (0, .ref (ad h0))]) C dX10_turn_27 rfl (by decide) rfl ?_
  refine g_iload_n C dX10_turn_28 rfl 0 rfl ?_
  refine g_iconst (v := (4 : Int32)) C dX10_turn_29 (by decide) ?_
  refine g_irem C dX10_turn_30 (by decide) ?_
  by_cases c6 : (r5 - r5 / (4 : Int32) * (4 : Int32)) = 0
  · have hw := hw.1 c6
    refine g_lookup (tgt := 56) C dX10_turn_31 (by decide) (by rw [c6]; rfl) (by decide) ?_
    refine g_aload_n C dX10_turn_56 rfl 1 rfl ?_
    refine g_getQ C dX10_turn_57 ft_233 z0 (hWF.q z0 5 rfl) ?_
    have zz7 := hWF.r z0 5 rfl
    refine g_aload_n C dX10_turn_60 rfl 1 rfl ?_
    refine g_getQ C dX10_turn_61 ft_216 z0 (hWF.q z0 0 rfl) ?_
    have zz8 := hWF.r z0 0 rfl
    refine g_callVv (As := [.ref (ad (rq Q h0 0))]) C dX10_turn_64 ft_37 zz7 ft_286 ft_168 (met_X5_pass l hWF zz7 zz8 hw) ⟨rfl, rfl, Nat.le_of_ble_eq_true rfl, Nat.le_of_ble_eq_true rfl⟩ ⟨Nat.zero_le _, Nat.zero_le _⟩ rfl rfl (Nat.le_of_ble_eq_true rfl) (fun I9 J9 Q9 hp => ?_)
    obtain ⟨hw, eJ, eQ, hWF⟩ := hp
    have eJ : J = J9 := Eq.symm eJ
    subst eJ
    have eQ : Q = Q9 := Eq.symm eQ
    subst eQ
    try dsimp only at hw hWF
    refine g_goto C dX10_turn_67 (tgt := 126) (by decide) ?_
    exact g_vret C dX10_turn_126 hr ⟨hw, rfl, rfl, hWF⟩
  by_cases c10 : (r5 - r5 / (4 : Int32) * (4 : Int32)) = 3
  · have hw := hw.2.1 c10
    refine g_lookup (tgt := 70) C dX10_turn_31 (by decide) (by rw [c10]; rfl) (by decide) ?_
    refine g_aload_n C dX10_turn_70 rfl 1 rfl ?_
    refine g_getQ C dX10_turn_71 ft_216 z0 (hWF.q z0 0 rfl) ?_
    have zz11 := hWF.r z0 0 rfl
    refine g_iload_n C dX10_turn_74 rfl 0 rfl ?_
    refine g_iconst (v := (4 : Int32)) C dX10_turn_75 (by decide) ?_
    refine g_idiv C dX10_turn_76 (by decide) ?_
    refine g_iconst (v := (4 : Int32)) C dX10_turn_77 (by decide) ?_
    refine g_irem C dX10_turn_78 (by decide) ?_
    refine g_putI C dX10_turn_79 ft_287 zz11 ?_
    refine g_goto C dX10_turn_82 (tgt := 126) (by decide) ?_
    exact g_vret C dX10_turn_126 hr ⟨hw, rfl, rfl, hWF⟩
  have hw := hw.2.2 c6 c10
  refine g_lookup (tgt := 85) C dX10_turn_31 (by decide) (lk_out c6 c10) (by decide) ?_
  refine g_aload_n C dX10_turn_85 rfl 1 rfl ?_
  refine g_getQ C dX10_turn_86 ft_216 z0 (hWF.q z0 0 rfl) ?_
  have zz12 := hWF.r z0 0 rfl
  refine g_getQ C dX10_turn_89 ft_218 zz12 (hWF.q zz12 1 rfl) ?_
  have zz13 := hWF.r zz12 1 rfl
  refine g_iload_n C dX10_turn_92 rfl 0 rfl ?_
  refine g_iconst (v := (4 : Int32)) C dX10_turn_93 (by decide) ?_
  refine g_idiv C dX10_turn_94 (by decide) ?_
  refine g_aload_n C dX10_turn_95 rfl 1 rfl ?_
  refine g_getQ C dX10_turn_96 ft_216 z0 (hWF.q z0 0 rfl) ?_
  have zz14 := hWF.r z0 0 rfl
  refine g_getI C dX10_turn_99 ft_241 zz14 ?_
  refine g_callSi (As := [.int (r5 / (4 : Int32)), .int ((sti I (rq Q h0 0) 8 r3) (rq Q h0 0) 3)]) C dX10_turn_102 ft_288 ft_12 (met_X10_leftOver l hWF  hw) ⟨rfl, rfl, Nat.le_of_ble_eq_true rfl, Nat.le_of_ble_eq_true rfl⟩ ⟨Nat.zero_le _, Nat.zero_le _⟩ rfl rfl (Nat.le_of_ble_eq_true rfl) (fun r15 I15 J15 Q15 hp => ?_)
  obtain ⟨hw, eI, eJ, eQ, hWF⟩ := hp
  have eI : (sti I (rq Q h0 0) 8 r3) = I15 := Eq.symm eI
  subst eI
  have eJ : J = J15 := Eq.symm eJ
  subst eJ
  have eQ : Q = Q15 := Eq.symm eQ
  subst eQ
  try dsimp only at hw hWF
  have hrzz16 := rft_eS hw.1
  refine g_aaldS C dX10_turn_105 zz13 hw.1 (hWF.q zz13 _ hrzz16) ?_
  have zz16 := hWF.r zz13 _ hrzz16
  have hw := hw.2
  refine g_iconst (v := (1 : Int32)) C dX10_turn_106 (by decide) ?_
  refine g_iload_n C dX10_turn_107 rfl 0 rfl ?_
  refine g_bipush (v := (64 : Int32)) C dX10_turn_108 (by decide) ?_
  refine g_idiv C dX10_turn_110 (by decide) ?_
  refine g_aload_n C dX10_turn_111 rfl 1 rfl ?_
  refine g_getQ C dX10_turn_112 ft_216 z0 (hWF.q z0 0 rfl) ?_
  have zz17 := hWF.r z0 0 rfl
  refine g_getI C dX10_turn_115 ft_242 zz17 ?_
  refine g_callSi (As := [.int (r5 / (64 : Int32)), .int ((sti I (rq Q h0 0) 8 r3) (rq Q h0 0) 4)]) C dX10_turn_118 ft_288 ft_12 (met_X10_leftOver l hWF  hw) ⟨rfl, rfl, Nat.le_of_ble_eq_true rfl, Nat.le_of_ble_eq_true rfl⟩ ⟨Nat.zero_le _, Nat.zero_le _⟩ rfl rfl (Nat.le_of_ble_eq_true rfl) (fun r18 I18 J18 Q18 hp => ?_)
  obtain ⟨hw, eI, eJ, eQ, hWF⟩ := hp
  have eI : (sti I (rq Q h0 0) 8 r3) = I18 := Eq.symm eI
  subst eI
  have eJ : J = J18 := Eq.symm eJ
  subst eJ
  have eQ : Q = Q18 := Eq.symm eQ
  subst eQ
  try dsimp only at hw hWF
  refine g_ishl C dX10_turn_121 ?_
  refine g_callVi (As := [.int ((1 : Int32) <<< (r18 &&& 31))]) C dX10_turn_122 ft_22 zz16 ft_221 ft_28 (met_X7_add l hWF zz16 hw) ⟨rfl, rfl, Nat.le_of_ble_eq_true rfl, Nat.le_of_ble_eq_true rfl⟩ ⟨Nat.zero_le _, Nat.zero_le _⟩ rfl rfl (Nat.le_of_ble_eq_true rfl) (fun r19 I19 J19 Q19 hp => ?_)
  obtain ⟨hw, eJ, eQ, hWF⟩ := hp
  have eJ : J = J19 := Eq.symm eJ
  subst eJ
  have eQ : Q = Q19 := Eq.symm eQ
  subst eQ
  try dsimp only at hw hWF
  refine g_pop C dX10_turn_125 rfl ?_
  exact g_vret C dX10_turn_126 hr ⟨hw, rfl, rfl, hWF⟩
def wp_X10_drift_L15 (f0_3 : Nat) (f1_3 : Int32) (k41 : KI → KQ → Prop) : Nat → KI → KQ → Int32 → Prop
  | 0, _, _, _ => False
  | n15 + 1, I_3, Q_3, x2_3 => ((f1_3 ≤ x2_3 → k41 I_3 Q_3) ∧ (¬ f1_3 ≤ x2_3 → wp_X3_keep I_3 Q_3 (rq Q_3 f0_3 1) (rq Q_3 f0_3 0) (fun I7 Q7 => wp_X10_turn I7 Q7 f0_3 (fun I8 => wp_X10_drift_L15 f0_3 f1_3 k41 n15 I8 Q7 (x2_3 + (1 : Int32))))))
def wp_X10_drift (I : KI) (Q : KQ) (h0 : Nat) (x1 : Int32) (post : Int32 → KI → KQ → Prop) : Prop := ((x1 < (1 : Int32) → post (-1 : Int32) I Q) ∧ (¬ x1 < (1 : Int32) → ((x1 ≤ (40 : Int32) → (∃ q15, wp_X10_drift_L15 h0 x1 (fun I_10 Q_10 => wp_X1_ranks I_10 Q_10 (rq Q_10 h0 0) (fun r12 => post r12 I_10 Q_10)) q15 I Q (0 : Int32))) ∧ (¬ x1 ≤ (40 : Int32) → post (-1 : Int32) I Q))))
set_option maxHeartbeats 4000000 in
set_option maxRecDepth 100000 in
theorem met_X10_drift {Z : Nat → Prop} {A : Nat → Prop} {D : va_G} {D2 : Nat → ClassId} {ad : Nat → Nat} {N : Nat} {T : Nat → Nat × Nat} (l : Launch) {I : KI} {J : KJ} {Q : KQ} {h0 : Nat} {x1 : Int32} {post : Int32 → KI → KQ → Prop} (hWF : WF Z N T Q) (z0 : OKr Z N T h0 (10, 0)) (hw : wp_X10_drift I Q h0 x1 post) : Met l yX10_drift (.code yX10_drift cX10_drift 3 (some .int) :: BIG) ({ frames := 6, cells := 0, slots := 0, locals := 139 }) (Pr D D2 A ad N T I J Q [.ref (ad h0), .int x1]) (va_Qi (fun (r : Int32) (u : KS) => post r u.1 u.2.2 ∧ u.2.1 = J ∧ WF Z N T u.2.2) (Bw D D2 ad N T) A) 0 0 A := by
  refine Met_GG (lv0 := [(0, .ref (ad h0)), (1, .int x1)]) (by decide +kernel) [.ref (ad h0), .int x1] (Nat.le_of_ble_eq_true rfl) rfl ?_
  intro p e s m below meth c C hr
  have C : CX p s m [.ref (ad h0), .int x1].toArray meth c cX10_drift 3 RX10 A D D2 := C
  unfold wp_X10_drift at hw
  refine g_iload_n C dX10_drift_0 rfl 1 rfl ?_
  refine g_iconst (v := (1 : Int32)) C dX10_drift_1 (by decide) ?_
  refine g_icmp_lt (tgt := 11) C dX10_drift_2 (by decide) (fun c1 => ?_) (fun c1 => ?_)
  · have hw := hw.1 c1
    refine g_iconst (v := (-1 : Int32)) C dX10_drift_11 (by decide) ?_
    exact g_iret C dX10_drift_12 hr ⟨hw, rfl, hWF⟩
  · have hw := hw.2 c1
    refine g_iload_n C dX10_drift_5 rfl 1 rfl ?_
    refine g_bipush (v := (40 : Int32)) C dX10_drift_6 (by decide) ?_
    refine g_icmp_le (tgt := 13) C dX10_drift_8 (by decide) (fun c2 => ?_) (fun c2 => ?_)
    · have hw := hw.1 c2
      refine g_iconst (v := (0 : Int32)) C dX10_drift_13 (by decide) ?_
      refine g_istore_n (lv' := [(2, .int (0 : Int32)), (0, .ref (ad h0)), (1, .int x1)]) C dX10_drift_14 rfl (by decide) rfl ?_
      have K41_u9 : ∀ (I_10 : KI) (Q_10 : KQ), (wp_X1_ranks I_10 Q_10 (rq Q_10 h0 0) (fun r12 => post r12 I_10 Q_10)) → WF Z N T Q_10 → GG p l e ({ frames := 6, cells := 0, slots := 0, locals := 139 }) s m [.ref (ad h0), .int x1].toArray below meth c 3 A D D2 0 0 (MQ below (va_Qi (fun (r : Int32) (u : KS) => post r u.1 u.2.2 ∧ u.2.1 = J ∧ WF Z N T u.2.2) (Bw D D2 ad N T) A) [.ref (ad h0), .int x1].toArray s 0 0 A) ad N T I_10 J Q_10 41 [(0, .ref (ad h0))] [] := by
        intro I_10 Q_10 hw hWF
        refine g_aload_n C dX10_drift_41 rfl 0 rfl ?_
        refine g_getQ C dX10_drift_42 ft_216 z0 (hWF.q z0 0 rfl) ?_
        have zz11 := hWF.r z0 0 rfl
        refine g_callVi (As := []) C dX10_drift_45 ft_46 zz11 ft_246 ft_247 (met_X1_ranks l hWF zz11 hw) ⟨rfl, rfl, Nat.le_of_ble_eq_true rfl, Nat.le_of_ble_eq_true rfl⟩ ⟨Nat.zero_le _, Nat.zero_le _⟩ rfl rfl (Nat.le_of_ble_eq_true rfl) (fun r12 I12 J12 Q12 hp => ?_)
        obtain ⟨hw, eI, eJ, eQ, hWF⟩ := hp
        have eI : I_10 = I12 := Eq.symm eI
        subst eI
        have eJ : J = J12 := Eq.symm eJ
        subst eJ
        have eQ : Q_10 = Q12 := Eq.symm eQ
        subst eQ
        try dsimp only at hw hWF
        exact g_iret C dX10_drift_48 hr ⟨hw, rfl, hWF⟩
      have L15_u9 : ∀ (n15 : Nat) (I_3 : KI) (Q_3 : KQ) (x2_3 : Int32), wp_X10_drift_L15 h0 x1 (fun I_10 Q_10 => wp_X1_ranks I_10 Q_10 (rq Q_10 h0 0) (fun r12 => post r12 I_10 Q_10)) n15 I_3 Q_3 x2_3 → WF Z N T Q_3 → GG p l e ({ frames := 6, cells := 0, slots := 0, locals := 139 }) s m [.ref (ad h0), .int x1].toArray below meth c 3 A D D2 0 0 (MQ below (va_Qi (fun (r : Int32) (u : KS) => post r u.1 u.2.2 ∧ u.2.1 = J ∧ WF Z N T u.2.2) (Bw D D2 ad N T) A) [.ref (ad h0), .int x1].toArray s 0 0 A) ad N T I_3 J Q_3 15 [(0, .ref (ad h0)), (1, .int x1), (2, .int x2_3)] [] := by
        intro n15
        induction n15 with
        | zero => intro I_3 Q_3 x2_3 hw; exact hw.elim
        | succ n15 ih_u9 =>
          intro I_3 Q_3 x2_3 hw hWF
          unfold wp_X10_drift_L15 at hw
          refine g_iload_n C dX10_drift_15 rfl 2 rfl ?_
          refine g_iload_n C dX10_drift_16 rfl 1 rfl ?_
          refine g_icmp_ge (tgt := 41) C dX10_drift_17 (by decide) (fun c14 => ?_) (fun c14 => ?_)
          · have hw := hw.1 c14
            refine g_sub [0] rfl ?_
            exact K41_u9 I_3 Q_3 hw hWF
          · have hw := hw.2 c14
            refine g_aload_n C dX10_drift_20 rfl 0 rfl ?_
            refine g_getQ C dX10_drift_21 ft_219 z0 (hWF.q z0 1 rfl) ?_
            have zz15 := hWF.r z0 1 rfl
            refine g_aload_n C dX10_drift_24 rfl 0 rfl ?_
            refine g_getQ C dX10_drift_25 ft_216 z0 (hWF.q z0 0 rfl) ?_
            have zz16 := hWF.r z0 0 rfl
            refine g_callVv (As := [.ref (ad (rq Q_3 h0 0))]) C dX10_drift_28 ft_133 zz15 ft_222 ft_223 (met_X3_keep l hWF zz15 zz16 hw) ⟨rfl, rfl, Nat.le_of_ble_eq_true rfl, Nat.le_of_ble_eq_true rfl⟩ ⟨Nat.zero_le _, Nat.zero_le _⟩ rfl rfl (Nat.le_of_ble_eq_true rfl) (fun I17 J17 Q17 hp => ?_)
            obtain ⟨hw, eJ, hWF⟩ := hp
            have eJ : J = J17 := Eq.symm eJ
            subst eJ
            try dsimp only at hw hWF
            refine g_aload_n C dX10_drift_31 rfl 0 rfl ?_
            refine g_callVv (As := []) C dX10_drift_32 ft_293 z0 ft_291 ft_292 (met_X10_turn l hWF z0 hw) ⟨rfl, rfl, Nat.le_of_ble_eq_true rfl, Nat.le_of_ble_eq_true rfl⟩ ⟨Nat.zero_le _, Nat.zero_le _⟩ rfl rfl (Nat.le_of_ble_eq_true rfl) (fun I18 J18 Q18 hp => ?_)
            obtain ⟨hw, eJ, eQ, hWF⟩ := hp
            have eJ : J = J18 := Eq.symm eJ
            subst eJ
            have eQ : Q17 = Q18 := Eq.symm eQ
            subst eQ
            try dsimp only at hw hWF
            refine g_iinc (v := (x2_3 + (1 : Int32))) (lv' := [(2, .int (x2_3 + (1 : Int32))), (0, .ref (ad h0)), (1, .int x1)]) C dX10_drift_35 (q := 2) rfl rfl (by decide) rfl ?_
            refine g_goto C dX10_drift_38 (tgt := 15) (by decide) ?_
            refine g_sub [1, 2, 0] rfl ?_
            exact ih_u9 I18 Q17 (x2_3 + (1 : Int32)) hw hWF
      obtain ⟨n_u9, hw⟩ := hw
      refine g_sub [1, 2, 0] rfl ?_
      exact L15_u9 n_u9 I Q (0 : Int32) hw hWF
    · have hw := hw.2 c2
      refine g_iconst (v := (-1 : Int32)) C dX10_drift_11 (by decide) ?_
      exact g_iret C dX10_drift_12 hr ⟨hw, rfl, hWF⟩
def wp_X10_undo (I : KI) (Q : KQ) (h0 : Nat) (post : Int32 → KI → Prop) : Prop := wp_X3_back I Q (rq Q h0 1) (rq Q h0 0) (fun r3 I3 => ((r3 = 0 → post (-4 : Int32) I3) ∧ (¬ r3 = 0 → post (I3 (rq Q h0 1) 1) I3)))
set_option maxHeartbeats 4000000 in
set_option maxRecDepth 100000 in
theorem met_X10_undo {Z : Nat → Prop} {A : Nat → Prop} {D : va_G} {D2 : Nat → ClassId} {ad : Nat → Nat} {N : Nat} {T : Nat → Nat × Nat} (l : Launch) {I : KI} {J : KJ} {Q : KQ} {h0 : Nat} {post : Int32 → KI → Prop} (hWF : WF Z N T Q) (z0 : OKr Z N T h0 (10, 0)) (hw : wp_X10_undo I Q h0 post) : Met l yX10_undo (.code yX10_undo cX10_undo 1 (some .int) :: BIG) ({ frames := 4, cells := 0, slots := 0, locals := 104 }) (Pr D D2 A ad N T I J Q [.ref (ad h0)]) (va_Qi (fun (r : Int32) (u : KS) => post r u.1 ∧ u.2.1 = J ∧ u.2.2 = Q ∧ WF Z N T u.2.2) (Bw D D2 ad N T) A) 0 0 A := by
  refine Met_GG (lv0 := [(0, .ref (ad h0))]) (by decide +kernel) [.ref (ad h0)] (Nat.le_of_ble_eq_true rfl) rfl ?_
  intro p e s m below meth c C hr
  have C : CX p s m [.ref (ad h0)].toArray meth c cX10_undo 1 RX10 A D D2 := C
  unfold wp_X10_undo at hw
  refine g_aload_n C dX10_undo_0 rfl 0 rfl ?_
  refine g_getQ C dX10_undo_1 ft_219 z0 (hWF.q z0 1 rfl) ?_
  have zz1 := hWF.r z0 1 rfl
  refine g_aload_n C dX10_undo_4 rfl 0 rfl ?_
  refine g_getQ C dX10_undo_5 ft_216 z0 (hWF.q z0 0 rfl) ?_
  have zz2 := hWF.r z0 0 rfl
  refine g_callVi (As := [.ref (ad (rq Q h0 0))]) C dX10_undo_8 ft_133 zz1 ft_294 ft_295 (met_X3_back l hWF zz1 zz2 hw) ⟨rfl, rfl, Nat.le_of_ble_eq_true rfl, Nat.le_of_ble_eq_true rfl⟩ ⟨Nat.zero_le _, Nat.zero_le _⟩ rfl rfl (Nat.le_of_ble_eq_true rfl) (fun r3 I3 J3 Q3 hp => ?_)
  obtain ⟨hw, eJ, eQ, hWF⟩ := hp
  have eJ : J = J3 := Eq.symm eJ
  subst eJ
  have eQ : Q = Q3 := Eq.symm eQ
  subst eQ
  try dsimp only at hw hWF
  refine g_if_eq (tgt := 24) C dX10_undo_11 (by decide) (fun c4 => ?_) (fun c4 => ?_)
  · have hw := hw.1 c4
    refine g_bipush (v := (-4 : Int32)) C dX10_undo_24 (by decide) ?_
    exact g_iret C dX10_undo_26 hr ⟨hw, rfl, rfl, hWF⟩
  · have hw := hw.2 c4
    refine g_aload_n C dX10_undo_14 rfl 0 rfl ?_
    refine g_getQ C dX10_undo_15 ft_219 z0 (hWF.q z0 1 rfl) ?_
    have zz5 := hWF.r z0 1 rfl
    refine g_getI C dX10_undo_18 ft_249 zz5 ?_
    refine g_goto C dX10_undo_21 (tgt := 26) (by decide) ?_
    exact g_iret C dX10_undo_26 hr ⟨hw, rfl, rfl, hWF⟩
def wp_X10_seed (I : KI) (Q : KQ) (h0 : Nat) (x1 : Int32) (post : Int32 → KI → Prop) : Prop := ((0 ≤ x1 → post (I (rq Q h0 0) 8) (sti I (rq Q h0 0) 8 x1)) ∧ (¬ 0 ≤ x1 → post (-1 : Int32) I))
set_option maxHeartbeats 4000000 in
set_option maxRecDepth 100000 in
theorem met_X10_seed {Z : Nat → Prop} {A : Nat → Prop} {D : va_G} {D2 : Nat → ClassId} {ad : Nat → Nat} {N : Nat} {T : Nat → Nat × Nat} (l : Launch) {I : KI} {J : KJ} {Q : KQ} {h0 : Nat} {x1 : Int32} {post : Int32 → KI → Prop} (hWF : WF Z N T Q) (z0 : OKr Z N T h0 (10, 0)) (hw : wp_X10_seed I Q h0 x1 post) : Met l yX10_seed (.code yX10_seed cX10_seed 3 (some .int) :: BIG) ({ frames := 0, cells := 0, slots := 0, locals := 0 }) (Pr D D2 A ad N T I J Q [.ref (ad h0), .int x1]) (va_Qi (fun (r : Int32) (u : KS) => post r u.1 ∧ u.2.1 = J ∧ u.2.2 = Q ∧ WF Z N T u.2.2) (Bw D D2 ad N T) A) 0 0 A := by
  refine Met_GG (lv0 := [(0, .ref (ad h0)), (1, .int x1)]) (by decide +kernel) [.ref (ad h0), .int x1] (Nat.le_of_ble_eq_true rfl) rfl ?_
  intro p e s m below meth c C hr
  have C : CX p s m [.ref (ad h0), .int x1].toArray meth c cX10_seed 3 RX10 A D D2 := C
  unfold wp_X10_seed at hw
  refine g_iload_n C dX10_seed_0 rfl 1 rfl ?_
  refine g_if_ge (tgt := 6) C dX10_seed_1 (by decide) (fun c1 => ?_) (fun c1 => ?_)
  · have hw := hw.1 c1
    refine g_aload_n C dX10_seed_6 rfl 0 rfl ?_
    refine g_getQ C dX10_seed_7 ft_216 z0 (hWF.q z0 0 rfl) ?_
    have zz2 := hWF.r z0 0 rfl
    refine g_getI C dX10_seed_10 ft_284 zz2 ?_
    refine g_istore_n (lv' := [(2, .int (I (rq Q h0 0) 8)), (0, .ref (ad h0)), (1, .int x1)]) C dX10_seed_13 rfl (by decide) rfl ?_
    refine g_aload_n C dX10_seed_14 rfl 1 rfl ?_
    refine g_getQ C dX10_seed_15 ft_216 z0 (hWF.q z0 0 rfl) ?_
    have zz3 := hWF.r z0 0 rfl
    refine g_iload_n C dX10_seed_18 rfl 2 rfl ?_
    refine g_putI C dX10_seed_19 ft_285 zz3 ?_
    refine g_iload_n C dX10_seed_22 rfl 0 rfl ?_
    exact g_iret C dX10_seed_23 hr ⟨hw, rfl, rfl, hWF⟩
  · have hw := hw.2 c1
    refine g_iconst (v := (-1 : Int32)) C dX10_seed_4 (by decide) ?_
    exact g_iret C dX10_seed_5 hr ⟨hw, rfl, rfl, hWF⟩
def wp_X10_image (I : KI) (Q : KQ) (h0 : Nat) (post : Int32 → KI → Prop) : Prop := wp_X1_take I Q (rq Q h0 2) (rq Q h0 0) (fun I3 => wp_X3_take I3 Q (rq Q h0 3) (rq Q h0 1) (fun I6 => post (1 : Int32) (sti I6 h0 11 (1 : Int32))))
set_option maxHeartbeats 4000000 in
set_option maxRecDepth 100000 in
theorem met_X10_image {Z : Nat → Prop} {A : Nat → Prop} {D : va_G} {D2 : Nat → ClassId} {ad : Nat → Nat} {N : Nat} {T : Nat → Nat × Nat} (l : Launch) {I : KI} {J : KJ} {Q : KQ} {h0 : Nat} {post : Int32 → KI → Prop} (hWF : WF Z N T Q) (z0 : OKr Z N T h0 (10, 0)) (hw : wp_X10_image I Q h0 post) : Met l yX10_image (.code yX10_image cX10_image 1 (some .int) :: BIG) ({ frames := 4, cells := 0, slots := 0, locals := 105 }) (Pr D D2 A ad N T I J Q [.ref (ad h0)]) (va_Qi (fun (r : Int32) (u : KS) => post r u.1 ∧ u.2.1 = J ∧ u.2.2 = Q ∧ WF Z N T u.2.2) (Bw D D2 ad N T) A) 0 0 A := by
  refine Met_GG (lv0 := [(0, .ref (ad h0))]) (by decide +kernel) [.ref (ad h0)] (Nat.le_of_ble_eq_true rfl) rfl ?_
  intro p e s m below meth c C hr
  have C : CX p s m [.ref (ad h0)].toArray meth c cX10_image 1 RX10 A D D2 := C
  unfold wp_X10_image at hw
  refine g_aload_n C dX10_image_0 rfl 0 rfl ?_
  refine g_getQ C dX10_image_1 ft_296 z0 (hWF.q z0 2 rfl) ?_
  have zz1 := hWF.r z0 2 rfl
  refine g_aload_n C dX10_image_4 rfl 0 rfl ?_
  refine g_getQ C dX10_image_5 ft_216 z0 (hWF.q z0 0 rfl) ?_
  have zz2 := hWF.r z0 0 rfl
  refine g_callVv (As := [.ref (ad (rq Q h0 0))]) C dX10_image_8 ft_46 zz1 ft_263 ft_130 (met_X1_take l hWF zz1 zz2 hw) ⟨rfl, rfl, Nat.le_of_ble_eq_true rfl, Nat.le_of_ble_eq_true rfl⟩ ⟨Nat.zero_le _, Nat.zero_le _⟩ rfl rfl (Nat.le_of_ble_eq_true rfl) (fun I3 J3 Q3 hp => ?_)
  obtain ⟨hw, eJ, eQ, hWF⟩ := hp
  have eJ : J = J3 := Eq.symm eJ
  subst eJ
  have eQ : Q = Q3 := Eq.symm eQ
  subst eQ
  try dsimp only at hw hWF
  refine g_aload_n C dX10_image_11 rfl 0 rfl ?_
  refine g_getQ C dX10_image_12 ft_297 z0 (hWF.q z0 3 rfl) ?_
  have zz4 := hWF.r z0 3 rfl
  refine g_aload_n C dX10_image_15 rfl 0 rfl ?_
  refine g_getQ C dX10_image_16 ft_219 z0 (hWF.q z0 1 rfl) ?_
  have zz5 := hWF.r z0 1 rfl
  refine g_callVv (As := [.ref (ad (rq Q h0 1))]) C dX10_image_19 ft_133 zz4 ft_299 ft_300 (met_X3_take l hWF zz4 zz5 hw) ⟨rfl, rfl, Nat.le_of_ble_eq_true rfl, Nat.le_of_ble_eq_true rfl⟩ ⟨Nat.zero_le _, Nat.zero_le _⟩ rfl rfl (Nat.le_of_ble_eq_true rfl) (fun I6 J6 Q6 hp => ?_)
  obtain ⟨hw, eJ, eQ, hWF⟩ := hp
  have eJ : J = J6 := Eq.symm eJ
  subst eJ
  have eQ : Q = Q6 := Eq.symm eQ
  subst eQ
  try dsimp only at hw hWF
  refine g_aload_n C dX10_image_22 rfl 0 rfl ?_
  refine g_iconst (v := (1 : Int32)) C dX10_image_23 (by decide) ?_
  refine g_putZ C dX10_image_24 ft_298 z0 rfl rfl ?_
  refine g_iconst (v := (1 : Int32)) C dX10_image_27 (by decide) ?_
  exact g_iret C dX10_image_28 hr ⟨hw, rfl, rfl, hWF⟩
def wp_X10_restore (I : KI) (Q : KQ) (h0 : Nat) (post : Int32 → KI → Prop) : Prop := ((¬ (I h0 11) = 0 → wp_X1_take I Q (rq Q h0 0) (rq Q h0 2) (fun I4 => wp_X3_take I4 Q (rq Q h0 1) (rq Q h0 3) (fun I7 => post (1 : Int32) I7))) ∧ ((I h0 11) = 0 → post (-4 : Int32) I))
set_option maxHeartbeats 4000000 in
set_option maxRecDepth 100000 in
theorem met_X10_restore {Z : Nat → Prop} {A : Nat → Prop} {D : va_G} {D2 : Nat → ClassId} {ad : Nat → Nat} {N : Nat} {T : Nat → Nat × Nat} (l : Launch) {I : KI} {J : KJ} {Q : KQ} {h0 : Nat} {post : Int32 → KI → Prop} (hWF : WF Z N T Q) (z0 : OKr Z N T h0 (10, 0)) (hw : wp_X10_restore I Q h0 post) : Met l yX10_restore (.code yX10_restore cX10_restore 1 (some .int) :: BIG) ({ frames := 4, cells := 0, slots := 0, locals := 105 }) (Pr D D2 A ad N T I J Q [.ref (ad h0)]) (va_Qi (fun (r : Int32) (u : KS) => post r u.1 ∧ u.2.1 = J ∧ u.2.2 = Q ∧ WF Z N T u.2.2) (Bw D D2 ad N T) A) 0 0 A := by
  refine Met_GG (lv0 := [(0, .ref (ad h0))]) (by decide +kernel) [.ref (ad h0)] (Nat.le_of_ble_eq_true rfl) rfl ?_
  intro p e s m below meth c C hr
  have C : CX p s m [.ref (ad h0)].toArray meth c cX10_restore 1 RX10 A D D2 := C
  unfold wp_X10_restore at hw
  refine g_aload_n C dX10_restore_0 rfl 0 rfl ?_
  refine g_getI C dX10_restore_1 ft_301 z0 ?_
  refine g_if_ne (tgt := 10) C dX10_restore_4 (by decide) (fun c1 => ?_) (fun c1 => ?_)
  · have hw := hw.1 c1
    refine g_aload_n C dX10_restore_10 rfl 0 rfl ?_
    refine g_getQ C dX10_restore_11 ft_216 z0 (hWF.q z0 0 rfl) ?_
    have zz2 := hWF.r z0 0 rfl
    refine g_aload_n C dX10_restore_14 rfl 0 rfl ?_
    refine g_getQ C dX10_restore_15 ft_296 z0 (hWF.q z0 2 rfl) ?_
    have zz3 := hWF.r z0 2 rfl
    refine g_callVv (As := [.ref (ad (rq Q h0 2))]) C dX10_restore_18 ft_46 zz2 ft_263 ft_130 (met_X1_take l hWF zz2 zz3 hw) ⟨rfl, rfl, Nat.le_of_ble_eq_true rfl, Nat.le_of_ble_eq_true rfl⟩ ⟨Nat.zero_le _, Nat.zero_le _⟩ rfl rfl (Nat.le_of_ble_eq_true rfl) (fun I4 J4 Q4 hp => ?_)
    obtain ⟨hw, eJ, eQ, hWF⟩ := hp
    have eJ : J = J4 := Eq.symm eJ
    subst eJ
    have eQ : Q = Q4 := Eq.symm eQ
    subst eQ
    try dsimp only at hw hWF
    refine g_aload_n C dX10_restore_21 rfl 0 rfl ?_
    refine g_getQ C dX10_restore_22 ft_219 z0 (hWF.q z0 1 rfl) ?_
    have zz5 := hWF.r z0 1 rfl
    refine g_aload_n C dX10_restore_25 rfl 0 rfl ?_
    refine g_getQ C dX10_restore_26 ft_297 z0 (hWF.q z0 3 rfl) ?_
    have zz6 := hWF.r z0 3 rfl
    refine g_callVv (As := [.ref (ad (rq Q h0 3))]) C dX10_restore_29 ft_133 zz5 ft_299 ft_300 (met_X3_take l hWF zz5 zz6 hw) ⟨rfl, rfl, Nat.le_of_ble_eq_true rfl, Nat.le_of_ble_eq_true rfl⟩ ⟨Nat.zero_le _, Nat.zero_le _⟩ rfl rfl (Nat.le_of_ble_eq_true rfl) (fun I7 J7 Q7 hp => ?_)
    obtain ⟨hw, eJ, eQ, hWF⟩ := hp
    have eJ : J = J7 := Eq.symm eJ
    subst eJ
    have eQ : Q = Q7 := Eq.symm eQ
    subst eQ
    try dsimp only at hw hWF
    refine g_iconst (v := (1 : Int32)) C dX10_restore_32 (by decide) ?_
    exact g_iret C dX10_restore_33 hr ⟨hw, rfl, rfl, hWF⟩
  · have hw := hw.2 c1
    refine g_bipush (v := (-4 : Int32)) C dX10_restore_7 (by decide) ?_
    exact g_iret C dX10_restore_9 hr ⟨hw, rfl, rfl, hWF⟩
def wp_X10_isSheet  (x0 : Int32) (post : Int32 → Prop) : Prop := ((x0 < 0 → post (0 : Int32)) ∧ (¬ x0 < 0 → (((4 : Int32) ≤ x0 → post (0 : Int32)) ∧ (¬ (4 : Int32) ≤ x0 → post (1 : Int32)))))
set_option maxHeartbeats 4000000 in
set_option maxRecDepth 100000 in
theorem met_X10_isSheet {Z : Nat → Prop} {A : Nat → Prop} {D : va_G} {D2 : Nat → ClassId} {ad : Nat → Nat} {N : Nat} {T : Nat → Nat × Nat} (l : Launch) {I : KI} {J : KJ} {Q : KQ} {x0 : Int32} {post : Int32 → Prop} (hWF : WF Z N T Q)  (hw : wp_X10_isSheet x0 post) : Met l yX10_isSheet (.code yX10_isSheet cX10_isSheet 1 (some .boolean) :: BIG) ({ frames := 0, cells := 0, slots := 0, locals := 0 }) (Pr D D2 A ad N T I J Q [.int x0]) (va_Qi (fun (r : Int32) (u : KS) => post r ∧ u.1 = I ∧ u.2.1 = J ∧ u.2.2 = Q ∧ WF Z N T u.2.2) (Bw D D2 ad N T) A) 0 0 A := by
  refine Met_GG (lv0 := [(0, .int x0)]) (by decide +kernel) [.int x0] (Nat.le_of_ble_eq_true rfl) rfl ?_
  intro p e s m below meth c C hr
  have C : CX p s m [.int x0].toArray meth c cX10_isSheet 1 RX10 A D D2 := C
  unfold wp_X10_isSheet at hw
  refine g_iload_n C dX10_isSheet_0 rfl 0 rfl ?_
  refine g_if_lt (tgt := 13) C dX10_isSheet_1 (by decide) (fun c1 => ?_) (fun c1 => ?_)
  · have hw := hw.1 c1
    refine g_iconst (v := (0 : Int32)) C dX10_isSheet_13 (by decide) ?_
    exact g_zret C dX10_isSheet_14 hr rfl ⟨hw, rfl, rfl, rfl, hWF⟩
  · have hw := hw.2 c1
    refine g_iload_n C dX10_isSheet_4 rfl 0 rfl ?_
    refine g_iconst (v := (4 : Int32)) C dX10_isSheet_5 (by decide) ?_
    refine g_icmp_ge (tgt := 13) C dX10_isSheet_6 (by decide) (fun c2 => ?_) (fun c2 => ?_)
    · have hw := hw.1 c2
      refine g_iconst (v := (0 : Int32)) C dX10_isSheet_13 (by decide) ?_
      exact g_zret C dX10_isSheet_14 hr rfl ⟨hw, rfl, rfl, rfl, hWF⟩
    · have hw := hw.2 c2
      refine g_iconst (v := (1 : Int32)) C dX10_isSheet_9 (by decide) ?_
      refine g_goto C dX10_isSheet_10 (tgt := 14) (by decide) ?_
      exact g_zret C dX10_isSheet_14 hr rfl ⟨hw, rfl, rfl, rfl, hWF⟩
def wp_X10_isLane  (x0 : Int32) (post : Int32 → Prop) : Prop := ((x0 < 0 → post (0 : Int32)) ∧ (¬ x0 < 0 → (((4 : Int32) ≤ x0 → post (0 : Int32)) ∧ (¬ (4 : Int32) ≤ x0 → post (1 : Int32)))))
set_option maxHeartbeats 4000000 in
set_option maxRecDepth 100000 in
theorem met_X10_isLane {Z : Nat → Prop} {A : Nat → Prop} {D : va_G} {D2 : Nat → ClassId} {ad : Nat → Nat} {N : Nat} {T : Nat → Nat × Nat} (l : Launch) {I : KI} {J : KJ} {Q : KQ} {x0 : Int32} {post : Int32 → Prop} (hWF : WF Z N T Q)  (hw : wp_X10_isLane x0 post) : Met l yX10_isLane (.code yX10_isLane cX10_isLane 1 (some .boolean) :: BIG) ({ frames := 0, cells := 0, slots := 0, locals := 0 }) (Pr D D2 A ad N T I J Q [.int x0]) (va_Qi (fun (r : Int32) (u : KS) => post r ∧ u.1 = I ∧ u.2.1 = J ∧ u.2.2 = Q ∧ WF Z N T u.2.2) (Bw D D2 ad N T) A) 0 0 A := by
  refine Met_GG (lv0 := [(0, .int x0)]) (by decide +kernel) [.int x0] (Nat.le_of_ble_eq_true rfl) rfl ?_
  intro p e s m below meth c C hr
  have C : CX p s m [.int x0].toArray meth c cX10_isLane 1 RX10 A D D2 := C
  unfold wp_X10_isLane at hw
  refine g_iload_n C dX10_isLane_0 rfl 0 rfl ?_
  refine g_if_lt (tgt := 13) C dX10_isLane_1 (by decide) (fun c1 => ?_) (fun c1 => ?_)
  · have hw := hw.1 c1
    refine g_iconst (v := (0 : Int32)) C dX10_isLane_13 (by decide) ?_
    exact g_zret C dX10_isLane_14 hr rfl ⟨hw, rfl, rfl, rfl, hWF⟩
  · have hw := hw.2 c1
    refine g_iload_n C dX10_isLane_4 rfl 0 rfl ?_
    refine g_iconst (v := (4 : Int32)) C dX10_isLane_5 (by decide) ?_
    refine g_icmp_ge (tgt := 13) C dX10_isLane_6 (by decide) (fun c2 => ?_) (fun c2 => ?_)
    · have hw := hw.1 c2
      refine g_iconst (v := (0 : Int32)) C dX10_isLane_13 (by decide) ?_
      exact g_zret C dX10_isLane_14 hr rfl ⟨hw, rfl, rfl, rfl, hWF⟩
    · have hw := hw.2 c2
      refine g_iconst (v := (1 : Int32)) C dX10_isLane_9 (by decide) ?_
      refine g_goto C dX10_isLane_10 (tgt := 14) (by decide) ?_
      exact g_zret C dX10_isLane_14 hr rfl ⟨hw, rfl, rfl, rfl, hWF⟩
def wp_X10_refusal (I : KI) (Q : KQ) (h0 : Nat) (x1 : Int32) (x2 : Int32) (post : Int32 → Prop) : Prop := wp_X10_isSheet x1 (fun r1 => ((r1 = 0 → post (-1 : Int32)) ∧ (¬ r1 = 0 → wp_X10_isLane x2 (fun r3 => ((¬ r3 = 0 → (vp_in x1 4 ∧ wp_X6_isNothing I (rq Q (rq Q h0 10) x1.toNatClampNeg) (fun r7 => ((r7 = 0 → (vp_in x1 4 ∧ ((¬ (I (rq Q (rq Q h0 10) x1.toNatClampNeg) 1) = x2 → post (-12 : Int32)) ∧ ((I (rq Q (rq Q h0 10) x1.toNatClampNeg) 1) = x2 → post (0 : Int32))))) ∧ (¬ r7 = 0 → post (-11 : Int32)))))) ∧ (r3 = 0 → post (-1 : Int32)))))))
set_option maxHeartbeats 4000000 in
set_option maxRecDepth 100000 in
theorem met_X10_refusal {Z : Nat → Prop} {A : Nat → Prop} {D : va_G} {D2 : Nat → ClassId} {ad : Nat → Nat} {N : Nat} {T : Nat → Nat × Nat} (l : Launch) {I : KI} {J : KJ} {Q : KQ} {h0 : Nat} {x1 : Int32} {x2 : Int32} {post : Int32 → Prop} (hWF : WF Z N T Q) (z0 : OKr Z N T h0 (10, 0)) (hw : wp_X10_refusal I Q h0 x1 x2 post) : Met l yX10_refusal (.code yX10_refusal cX10_refusal 3 (some .int) :: BIG) ({ frames := 1, cells := 0, slots := 0, locals := 20 }) (Pr D D2 A ad N T I J Q [.ref (ad h0), .int x1, .int x2]) (va_Qi (fun (r : Int32) (u : KS) => post r ∧ u.1 = I ∧ u.2.1 = J ∧ u.2.2 = Q ∧ WF Z N T u.2.2) (Bw D D2 ad N T) A) 0 0 A := by
  refine Met_GG (lv0 := [(0, .ref (ad h0)), (1, .int x1), (2, .int x2)]) (by decide +kernel) [.ref (ad h0), .int x1, .int x2] (Nat.le_of_ble_eq_true rfl) rfl ?_
  intro p e s m below meth c C hr
  have C : CX p s m [.ref (ad h0), .int x1, .int x2].toArray meth c cX10_refusal 3 RX10 A D D2 := C
  unfold wp_X10_refusal at hw
  refine g_iload_n C dX10_refusal_0 rfl 1 rfl ?_
  refine g_callSi (As := [.int x1]) C dX10_refusal_1 ft_309 ft_310 (met_X10_isSheet l hWF  hw) ⟨rfl, rfl, Nat.le_of_ble_eq_true rfl, Nat.le_of_ble_eq_true rfl⟩ ⟨Nat.zero_le _, Nat.zero_le _⟩ rfl rfl (Nat.le_of_ble_eq_true rfl) (fun r1 I1 J1 Q1 hp => ?_)
  obtain ⟨hw, eI, eJ, eQ, hWF⟩ := hp
  have eI : I = I1 := Eq.symm eI
  subst eI
  have eJ : J = J1 := Eq.symm eJ
  subst eJ
  have eQ : Q = Q1 := Eq.symm eQ
  subst eQ
  try dsimp only at hw hWF
  refine g_if_eq (tgt := 14) C dX10_refusal_4 (by decide) (fun c2 => ?_) (fun c2 => ?_)
  · have hw := hw.1 c2
    refine g_iconst (v := (-1 : Int32)) C dX10_refusal_14 (by decide) ?_
    exact g_iret C dX10_refusal_15 hr ⟨hw, rfl, rfl, rfl, hWF⟩
  · have hw := hw.2 c2
    refine g_iload_n C dX10_refusal_7 rfl 2 rfl ?_
    refine g_callSi (As := [.int x2]) C dX10_refusal_8 ft_307 ft_308 (met_X10_isLane l hWF  hw) ⟨rfl, rfl, Nat.le_of_ble_eq_true rfl, Nat.le_of_ble_eq_true rfl⟩ ⟨Nat.zero_le _, Nat.zero_le _⟩ rfl rfl (Nat.le_of_ble_eq_true rfl) (fun r3 I3 J3 Q3 hp => ?_)
    obtain ⟨hw, eI, eJ, eQ, hWF⟩ := hp
    have eI : I = I3 := Eq.symm eI
    subst eI
    have eJ : J = J3 := Eq.symm eJ
    subst eJ
    have eQ : Q = Q3 := Eq.symm eQ
    subst eQ
    try dsimp only at hw hWF
    refine g_if_ne (tgt := 16) C dX10_refusal_11 (by decide) (fun c4 => ?_) (fun c4 => ?_)
    · have hw := hw.1 c4
      refine g_aload_n C dX10_refusal_16 rfl 0 rfl ?_
      refine g_getQ C dX10_refusal_17 ft_302 z0 (hWF.q z0 10 rfl) ?_
      have zz5 := hWF.r z0 10 rfl
      refine g_iload_n C dX10_refusal_20 rfl 1 rfl ?_
      have hrzz6 := rft_eR hw.1
      refine g_aaldR C dX10_refusal_21 zz5 hw.1 (hWF.q zz5 _ hrzz6) ?_
      have zz6 := hWF.r zz5 _ hrzz6
      have hw := hw.2
      refine g_callVi (As := []) C dX10_refusal_22 ft_306 zz6 ft_304 ft_305 (met_X6_isNothing l hWF zz6 hw) ⟨rfl, rfl, Nat.le_of_ble_eq_true rfl, Nat.le_of_ble_eq_true rfl⟩ ⟨Nat.zero_le _, Nat.zero_le _⟩ rfl rfl (Nat.le_of_ble_eq_true rfl) (fun r7 I7 J7 Q7 hp => ?_)
      obtain ⟨hw, eI, eJ, eQ, hWF⟩ := hp
      have eI : I = I7 := Eq.symm eI
      subst eI
      have eJ : J = J7 := Eq.symm eJ
      subst eJ
      have eQ : Q = Q7 := Eq.symm eQ
      subst eQ
      try dsimp only at hw hWF
      refine g_if_eq (tgt := 31) C dX10_refusal_25 (by decide) (fun c8 => ?_) (fun c8 => ?_)
      · have hw := hw.1 c8
        refine g_aload_n C dX10_refusal_31 rfl 0 rfl ?_
        refine g_getQ C dX10_refusal_32 ft_302 z0 (hWF.q z0 10 rfl) ?_
        have zz9 := hWF.r z0 10 rfl
        refine g_iload_n C dX10_refusal_35 rfl 1 rfl ?_
        have hrzz10 := rft_eR hw.1
        refine g_aaldR C dX10_refusal_36 zz9 hw.1 (hWF.q zz9 _ hrzz10) ?_
        have zz10 := hWF.r zz9 _ hrzz10
        have hw := hw.2
        refine g_getI C dX10_refusal_37 ft_303 zz10 ?_
        refine g_iload_n C dX10_refusal_40 rfl 2 rfl ?_
        refine g_icmp_ne (tgt := 48) C dX10_refusal_41 (by decide) (fun c11 => ?_) (fun c11 => ?_)
        · have hw := hw.1 c11
          refine g_bipush (v := (-12 : Int32)) C dX10_refusal_48 (by decide) ?_
          exact g_iret C dX10_refusal_50 hr ⟨hw, rfl, rfl, rfl, hWF⟩
        · have hw := hw.2 c11
          refine g_iconst (v := (0 : Int32)) C dX10_refusal_44 (by decide) ?_
          refine g_goto C dX10_refusal_45 (tgt := 50) (by decide) ?_
          exact g_iret C dX10_refusal_50 hr ⟨hw, rfl, rfl, rfl, hWF⟩
      · have hw := hw.2 c8
        refine g_bipush (v := (-11 : Int32)) C dX10_refusal_28 (by decide) ?_
        exact g_iret C dX10_refusal_30 hr ⟨hw, rfl, rfl, rfl, hWF⟩
    · have hw := hw.2 c4
      refine g_iconst (v := (-1 : Int32)) C dX10_refusal_14 (by decide) ?_
      exact g_iret C dX10_refusal_15 hr ⟨hw, rfl, rfl, rfl, hWF⟩
def wp_X10_sentBy_L15 (If_4 : KI) (Jf_4 : KJ) (Qf_4 : KQ) (f0_4 : Nat) (f2_4 : Nat) (f3_4 : Int32) (post : Int32 → KI → Prop) : Nat → Int32 → Prop
  | 0, _ => False
  | n15 + 1, x4_4 => (((If_4 (rq Qf_4 f0_4 0) 3) ≤ x4_4 → post (1 : Int32) If_4) ∧ (¬ (If_4 (rq Qf_4 f0_4 0) 3) ≤ x4_4 → (vp_in (f3_4 + x4_4) 24 ∧ ((¬ (lg_cmp (Jf_4 (rq Qf_4 f2_4 0) (f3_4 + x4_4).toNatClampNeg) (9 : Int64)) = 0 → wp_X5_only If_4 Qf_4 (rq Qf_4 f0_4 5) x4_4 (fun r10 => ((((1 : Int32) <<< (((Jf_4 (rq Qf_4 f2_4 0) (f3_4 + x4_4).toNatClampNeg).toInt32) &&& 31)) = r10 → wp_X10_sentBy_L15 If_4 Jf_4 Qf_4 f0_4 f2_4 f3_4 post n15 (x4_4 + (1 : Int32))) ∧ (¬ ((1 : Int32) <<< (((Jf_4 (rq Qf_4 f2_4 0) (f3_4 + x4_4).toNatClampNeg).toInt32) &&& 31)) = r10 → post (0 : Int32) If_4)))) ∧ ((lg_cmp (Jf_4 (rq Qf_4 f2_4 0) (f3_4 + x4_4).toNatClampNeg) (9 : Int64)) = 0 → wp_X5_only If_4 Qf_4 (rq Qf_4 f0_4 5) x4_4 (fun r13 => (((0 : Int32) = r13 → wp_X10_sentBy_L15 If_4 Jf_4 Qf_4 f0_4 f2_4 f3_4 post n15 (x4_4 + (1 : Int32))) ∧ (¬ (0 : Int32) = r13 → post (0 : Int32) If_4))))))))
def wp_X10_sentBy (I : KI) (J : KJ) (Q : KQ) (h0 : Nat) (x1 : Int32) (h2 : Nat) (x3 : Int32) (post : Int32 → KI → Prop) : Prop := wp_X5_prepare I Q (rq Q h0 5) (rq Q h0 0) x1 (fun I3 => (∃ q15, wp_X10_sentBy_L15 I3 J Q h0 h2 x3 post q15 (0 : Int32)))
set_option maxHeartbeats 4000000 in
set_option maxRecDepth 100000 in
theorem met_X10_sentBy {Z : Nat → Prop} {A : Nat → Prop} {D : va_G} {D2 : Nat → ClassId} {ad : Nat → Nat} {N : Nat} {T : Nat → Nat × Nat} (l : Launch) {I : KI} {J : KJ} {Q : KQ} {h0 : Nat} {x1 : Int32} {h2 : Nat} {x3 : Int32} {post : Int32 → KI → Prop} (hWF : WF Z N T Q) (z0 : OKr Z N T h0 (10, 0)) (z2 : OKr Z N T h2 (6, 0)) (hw : wp_X10_sentBy I J Q h0 x1 h2 x3 post) : Met l yX10_sentBy (.code yX10_sentBy cX10_sentBy 8 (some .boolean) :: BIG) ({ frames := 4, cells := 0, slots := 0, locals := 93 }) (Pr D D2 A ad N T I J Q [.ref (ad h0), .int x1, .ref (ad h2), .int x3]) (va_Qi (fun (r : Int32) (u : KS) => post r u.1 ∧ u.2.1 = J ∧ u.2.2 = Q ∧ WF Z N T u.2.2) (Bw D D2 ad N T) A) 0 0 A := by
  refine Met_GG (lv0 := [(0, .ref (ad h0)), (1, .int x1), (2, .ref (ad h2)), (3, .int x3)]) (by decide +kernel) [.ref (ad h0), .int x1, .ref (ad h2), .int x3] (Nat.le_of_ble_eq_true rfl) rfl ?_
  intro p e s m below meth c C hr
  have C : CX p s m [.ref (ad h0), .int x1, .ref (ad h2), .int x3].toArray meth c cX10_sentBy 8 RX10 A D D2 := C
  unfold wp_X10_sentBy at hw
  refine g_aload_n C dX10_sentBy_0 rfl 0 rfl ?_
  refine g_getQ C dX10_sentBy_1 ft_233 z0 (hWF.q z0 5 rfl) ?_
  have zz1 := hWF.r z0 5 rfl
  refine g_aload_n C dX10_sentBy_4 rfl 0 rfl ?_
  refine g_getQ C dX10_sentBy_5 ft_216 z0 (hWF.q z0 0 rfl) ?_
  have zz2 := hWF.r z0 0 rfl
  refine g_iload_n C dX10_sentBy_8 rfl 1 rfl ?_
  refine g_callVv (As := [.ref (ad (rq Q h0 0)), .int x1]) C dX10_sentBy_9 ft_37 zz1 ft_236 ft_166 (met_X5_prepare l hWF zz1 zz2 hw) ⟨rfl, rfl, Nat.le_of_ble_eq_true rfl, Nat.le_of_ble_eq_true rfl⟩ ⟨Nat.zero_le _, Nat.zero_le _⟩ rfl rfl (Nat.le_of_ble_eq_true rfl) (fun I3 J3 Q3 hp => ?_)
  obtain ⟨hw, eJ, eQ, hWF⟩ := hp
  have eJ : J = J3 := Eq.symm eJ
  subst eJ
  have eQ : Q = Q3 := Eq.symm eQ
  subst eQ
  try dsimp only at hw hWF
  refine g_iconst (v := (0 : Int32)) C dX10_sentBy_12 (by decide) ?_
  refine g_istore (lv' := [(4, .int (0 : Int32)), (0, .ref (ad h0)), (1, .int x1), (2, .ref (ad h2)), (3, .int x3)]) C dX10_sentBy_13 (by decide) rfl ?_
  have L15_u15 : ∀ (n15 : Nat) (x4_4 : Int32), wp_X10_sentBy_L15 I3 J Q h0 h2 x3 post n15 x4_4 → WF Z N T Q → GG p l e ({ frames := 4, cells := 0, slots := 0, locals := 93 }) s m [.ref (ad h0), .int x1, .ref (ad h2), .int x3].toArray below meth c 8 A D D2 0 0 (MQ below (va_Qi (fun (r : Int32) (u : KS) => post r u.1 ∧ u.2.1 = J ∧ u.2.2 = Q ∧ WF Z N T u.2.2) (Bw D D2 ad N T) A) [.ref (ad h0), .int x1, .ref (ad h2), .int x3].toArray s 0 0 A) ad N T I3 J Q 15 [(0, .ref (ad h0)), (2, .ref (ad h2)), (3, .int x3), (4, .int x4_4)] [] := by
    intro n15
    induction n15 with
    | zero => intro x4_4 hw; exact hw.elim
    | succ n15 ih_u15 =>
      intro x4_4 hw hWF
      unfold wp_X10_sentBy_L15 at hw
      refine g_iload C dX10_sentBy_15 3 rfl ?_
      refine g_aload_n C dX10_sentBy_17 rfl 0 rfl ?_
      refine g_getQ C dX10_sentBy_18 ft_216 z0 (hWF.q z0 0 rfl) ?_
      have zz17 := hWF.r z0 0 rfl
      refine g_getI C dX10_sentBy_21 ft_241 zz17 ?_
      refine g_icmp_ge (tgt := 80) C dX10_sentBy_24 (by decide) (fun c18 => ?_) (fun c18 => ?_)
      · have hw := hw.1 c18
        refine g_iconst (v := (1 : Int32)) C dX10_sentBy_80 (by decide) ?_
        exact g_zret C dX10_sentBy_81 hr rfl ⟨hw, rfl, rfl, hWF⟩
      · have hw := hw.2 c18
        refine g_aload_n C dX10_sentBy_27 rfl 1 rfl ?_
        refine g_getQ C dX10_sentBy_28 ft_311 z2 (hWF.q z2 0 rfl) ?_
        have zz19 := hWF.r z2 0 rfl
        refine g_iload_n C dX10_sentBy_31 rfl 2 rfl ?_
        refine g_iload C dX10_sentBy_32 3 rfl ?_
        refine g_iadd C dX10_sentBy_34 ?_
        refine g_lald C dX10_sentBy_35 zz19 hw.1 ?_
        have hw := hw.2
        refine g_lstore (lv' := [(5, .long (J (rq Q h2 0) (x3 + x4_4).toNatClampNeg)), (0, .ref (ad h0)), (2, .ref (ad h2)), (3, .int x3), (4, .int x4_4)]) C dX10_sentBy_36 (by decide) rfl ?_
        refine g_lload C dX10_sentBy_38 0 rfl ?_
        refine g_ldc2 C dX10_sentBy_40 ft_312 ?_
        refine g_lcmp C dX10_sentBy_43 ?_
        refine g_if_ne (tgt := 51) C dX10_sentBy_44 (by decide) (fun c20 => ?_) (fun c20 => ?_)
        · have hw := hw.1 c20
          refine g_iconst (v := (1 : Int32)) C dX10_sentBy_51 (by decide) ?_
          refine g_lload C dX10_sentBy_52 0 rfl ?_
          refine g_l2i C dX10_sentBy_54 ?_
          refine g_ishl C dX10_sentBy_55 ?_
          refine g_istore (lv' := [(7, .int ((1 : Int32) <<< (((J (rq Q h2 0) (x3 + x4_4).toNatClampNeg).toInt32) &&& 31))), (5, .long (J (rq Q h2 0) (x3 + x4_4).toNatClampNeg)), (0, .ref (ad h0)), (2, .ref (ad h2)), (3, .int x3), (4, .int x4_4)]) C dX10_sentBy_56 (by decide) rfl ?_
          refine g_iload C dX10_sentBy_58 0 rfl ?_
          refine g_aload_n C dX10_sentBy_60 rfl 2 rfl ?_
          refine g_getQ C dX10_sentBy_61 ft_233 z0 (hWF.q z0 5 rfl) ?_
          have zz21 := hWF.r z0 5 rfl
          refine g_iload C dX10_sentBy_64 5 rfl ?_
          refine g_callVi (As := [.int x4_4]) C dX10_sentBy_66 ft_37 zz21 ft_240 ft_164 (met_X5_only l hWF zz21 hw) ⟨rfl, rfl, Nat.le_of_ble_eq_true rfl, Nat.le_of_ble_eq_true rfl⟩ ⟨Nat.zero_le _, Nat.zero_le _⟩ rfl rfl (Nat.le_of_ble_eq_true rfl) (fun r22 I22 J22 Q22 hp => ?_)
          obtain ⟨hw, eI, eJ, eQ, hWF⟩ := hp
          have eI : I3 = I22 := Eq.symm eI
          subst eI
          have eJ : J = J22 := Eq.symm eJ
          subst eJ
          have eQ : Q = Q22 := Eq.symm eQ
          subst eQ
          try dsimp only at hw hWF
          refine g_icmp_eq (tgt := 74) C dX10_sentBy_69 (by decide) (fun c23 => ?_) (fun c23 => ?_)
          · have hw := hw.1 c23
            refine g_iinc (v := (x4_4 + (1 : Int32))) (lv' := [(4, .int (x4_4 + (1 : Int32))), (7, .int ((1 : Int32) <<< (((J (rq Q h2 0) (x3 + x4_4).toNatClampNeg).toInt32) &&& 31))), (5, .long (J (rq Q h2 0) (x3 + x4_4).toNatClampNeg)), (0, .ref (ad h0)), (2, .ref (ad h2)), (3, .int x3)]) C dX10_sentBy_74 (q := 5) rfl rfl (by decide) rfl ?_
            refine g_goto C dX10_sentBy_77 (tgt := 15) (by decide) ?_
            refine g_sub [3, 4, 5, 0] rfl ?_
            exact ih_u15 (x4_4 + (1 : Int32)) hw hWF
          · have hw := hw.2 c23
            refine g_iconst (v := (0 : Int32)) C dX10_sentBy_72 (by decide) ?_
            exact g_zret C dX10_sentBy_73 hr rfl ⟨hw, rfl, rfl, hWF⟩
        · have hw := hw.2 c20
          refine g_iconst (v := (0 : Int32)) C dX10_sentBy_47 (by decide) ?_
          refine g_goto C dX10_sentBy_48 (tgt := 56) (by decide) ?_
          refine g_istore (lv' := [(7, .int (0 : Int32)), (5, .long (J (rq Q h2 0) (x3 + x4_4).toNatClampNeg)), (0, .ref (ad h0)), (2, .ref (ad h2)), (3, .int x3), (4, .int x4_4)]) C dX10_sentBy_56 (by decide) rfl ?_
          refine g_iload C dX10_sentBy_58 0 rfl ?_
          refine g_aload_n C dX10_sentBy_60 rfl 2 rfl ?_
          refine g_getQ C dX10_sentBy_61 ft_233 z0 (hWF.q z0 5 rfl) ?_
          have zz24 := hWF.r z0 5 rfl
          refine g_iload C dX10_sentBy_64 5 rfl ?_
          refine g_callVi (As := [.int x4_4]) C dX10_sentBy_66 ft_37 zz24 ft_240 ft_164 (met_X5_only l hWF zz24 hw) ⟨rfl, rfl, Nat.le_of_ble_eq_true rfl, Nat.le_of_ble_eq_true rfl⟩ ⟨Nat.zero_le _, Nat.zero_le _⟩ rfl rfl (Nat.le_of_ble_eq_true rfl) (fun r25 I25 J25 Q25 hp => ?_)
          obtain ⟨hw, eI, eJ, eQ, hWF⟩ := hp
          have eI : I3 = I25 := Eq.symm eI
          subst eI
          have eJ : J = J25 := Eq.symm eJ
          subst eJ
          have eQ : Q = Q25 := Eq.symm eQ
          subst eQ
          try dsimp only at hw hWF
          refine g_icmp_eq (tgt := 74) C dX10_sentBy_69 (by decide) (fun c26 => ?_) (fun c26 => ?_)
          · have hw := hw.1 c26
            refine g_iinc (v := (x4_4 + (1 : Int32))) (lv' := [(4, .int (x4_4 + (1 : Int32))), (7, .int (0 : Int32)), (5, .long (J (rq Q h2 0) (x3 + x4_4).toNatClampNeg)), (0, .ref (ad h0)), (2, .ref (ad h2)), (3, .int x3)]) C dX10_sentBy_74 (q := 5) rfl rfl (by decide) rfl ?_
            refine g_goto C dX10_sentBy_77 (tgt := 15) (by decide) ?_
            refine g_sub [3, 4, 5, 0] rfl ?_
            exact ih_u15 (x4_4 + (1 : Int32)) hw hWF
          · have hw := hw.2 c26
            refine g_iconst (v := (0 : Int32)) C dX10_sentBy_72 (by decide) ?_
            exact g_zret C dX10_sentBy_73 hr rfl ⟨hw, rfl, rfl, hWF⟩
  obtain ⟨n_u15, hw⟩ := hw
  refine g_sub [1, 3, 4, 0] rfl ?_
  exact L15_u15 n_u15 (0 : Int32) hw hWF
def wp_X10_could_L46 (If_8 : KI) (Jf_8 : KJ) (Qf_8 : KQ) (f0_8 : Nat) (f3_8 : Int32) (f5_8 : Nat) (post : Int32 → KI → Prop) (k109 : Prop) : Nat → Int32 → Prop
  | 0, _ => False
  | n46 + 1, x6_8 => (((If_8 (rq Qf_8 f0_8 0) 3) ≤ x6_8 → k109) ∧ (¬ (If_8 (rq Qf_8 f0_8 0) 3) ≤ x6_8 → (vp_in (f3_8 + x6_8) 24 ∧ (((lg_cmp (Jf_8 (rq Qf_8 f5_8 0) (f3_8 + x6_8).toNatClampNeg) (0 : Int64)) < 0 → (((lg_cmp (Jf_8 (rq Qf_8 f5_8 0) (f3_8 + x6_8).toNatClampNeg) (9 : Int64)) = 0 → wp_X10_could_L46 If_8 Jf_8 Qf_8 f0_8 f3_8 f5_8 post k109 n46 (x6_8 + (1 : Int32))) ∧ (¬ (lg_cmp (Jf_8 (rq Qf_8 f5_8 0) (f3_8 + x6_8).toNatClampNeg) (9 : Int64)) = 0 → post (-2 : Int32) If_8))) ∧ (¬ (lg_cmp (Jf_8 (rq Qf_8 f5_8 0) (f3_8 + x6_8).toNatClampNeg) (0 : Int64)) < 0 → (((lg_cmp (Jf_8 (rq Qf_8 f5_8 0) (f3_8 + x6_8).toNatClampNeg) ((If_8 (rq Qf_8 f0_8 0) 4).toInt64)) < 0 → wp_X10_could_L46 If_8 Jf_8 Qf_8 f0_8 f3_8 f5_8 post k109 n46 (x6_8 + (1 : Int32))) ∧ (¬ (lg_cmp (Jf_8 (rq Qf_8 f5_8 0) (f3_8 + x6_8).toNatClampNeg) ((If_8 (rq Qf_8 f0_8 0) 4).toInt64)) < 0 → (((lg_cmp (Jf_8 (rq Qf_8 f5_8 0) (f3_8 + x6_8).toNatClampNeg) (9 : Int64)) = 0 → wp_X10_could_L46 If_8 Jf_8 Qf_8 f0_8 f3_8 f5_8 post k109 n46 (x6_8 + (1 : Int32))) ∧ (¬ (lg_cmp (Jf_8 (rq Qf_8 f5_8 0) (f3_8 + x6_8).toNatClampNeg) (9 : Int64)) = 0 → post (-2 : Int32) If_8)))))))))
def wp_X10_could (I : KI) (J : KJ) (Q : KQ) (h0 : Nat) (x1 : Int32) (x2 : Int32) (x3 : Int32) (post : Int32 → KI → Prop) : Prop := wp_X10_refusal I Q h0 x1 x2 (fun r1 => ((r1 = 0 → (vp_in x1 4 ∧ wp_X6_covers I (rq Q (rq Q h0 10) x1.toNatClampNeg) x3 (I (rq Q h0 0) 3) (fun r6 => ((¬ r6 = 0 → (∃ q46, wp_X10_could_L46 I J Q h0 x3 (rq Q (rq Q h0 10) x1.toNatClampNeg) post (wp_X10_sentBy I J Q h0 (0 : Int32) (rq Q (rq Q h0 10) x1.toNatClampNeg) x3 (fun r19 I19 => ((r19 = 0 → wp_X10_sentBy I19 J Q h0 (1 : Int32) (rq Q (rq Q h0 10) x1.toNatClampNeg) x3 (fun r21 I21 => ((r21 = 0 → post ((0 : Int32) + (0 : Int32)) I21) ∧ (¬ r21 = 0 → post ((0 : Int32) + (2 : Int32)) I21)))) ∧ (¬ r19 = 0 → wp_X10_sentBy I19 J Q h0 (1 : Int32) (rq Q (rq Q h0 10) x1.toNatClampNeg) x3 (fun r23 I23 => ((r23 = 0 → post ((1 : Int32) + (0 : Int32)) I23) ∧ (¬ r23 = 0 → post ((1 : Int32) + (2 : Int32)) I23))))))) q46 (0 : Int32))) ∧ (r6 = 0 → post (-13 : Int32) I))))) ∧ (¬ r1 = 0 → post r1 I)))
set_option maxHeartbeats 4000000 in
set_option maxRecDepth 100000 in
theorem met_X10_could {Z : Nat → Prop} {A : Nat → Prop} {D : va_G} {D2 : Nat → ClassId} {ad : Nat → Nat} {N : Nat} {T : Nat → Nat × Nat} (l : Launch) {I : KI} {J : KJ} {Q : KQ} {h0 : Nat} {x1 : Int32} {x2 : Int32} {x3 : Int32} {post : Int32 → KI → Prop} (hWF : WF Z N T Q) (z0 : OKr Z N T h0 (10, 0)) (hw : wp_X10_could I J Q h0 x1 x2 x3 post) : Met l yX10_could (.code yX10_could cX10_could 9 (some .int) :: BIG) ({ frames := 5, cells := 0, slots := 0, locals := 120 }) (Pr D D2 A ad N T I J Q [.ref (ad h0), .int x1, .int x2, .int x3]) (va_Qi (fun (r : Int32) (u : KS) => post r u.1 ∧ u.2.1 = J ∧ u.2.2 = Q ∧ WF Z N T u.2.2) (Bw D D2 ad N T) A) 0 0 A := by
  refine Met_GG (lv0 := [(0, .ref (ad h0)), (1, .int x1), (2, .int x2), (3, .int x3)]) (by decide +kernel) [.ref (ad h0), .int x1, .int x2, .int x3] (Nat.le_of_ble_eq_true rfl) rfl ?_
  intro p e s m below meth c C hr
  have C : CX p s m [.ref (ad h0), .int x1, .int x2, .int x3].toArray meth c cX10_could 9 RX10 A D D2 := C
  unfold wp_X10_could at hw
  refine g_aload_n C dX10_could_0 rfl 0 rfl ?_
  refine g_iload_n C dX10_could_1 rfl 1 rfl ?_
  refine g_iload_n C dX10_could_2 rfl 2 rfl ?_
  refine g_callVi (As := [.int x1, .int x2]) C dX10_could_3 ft_293 z0 ft_317 ft_318 (met_X10_refusal l hWF z0 hw) ⟨rfl, rfl, Nat.le_of_ble_eq_true rfl, Nat.le_of_ble_eq_true rfl⟩ ⟨Nat.zero_le _, Nat.zero_le _⟩ rfl rfl (Nat.le_of_ble_eq_true rfl) (fun r1 I1 J1 Q1 hp => ?_)
  obtain ⟨hw, eI, eJ, eQ, hWF⟩ := hp
  have eI : I = I1 := Eq.symm eI
  subst eI
  have eJ : J = J1 := Eq.symm eJ
  subst eJ
  have eQ : Q = Q1 := Eq.symm eQ
  subst eQ
  try dsimp only at hw hWF
  refine g_istore (lv' := [(4, .int r1), (0, .ref (ad h0)), (1, .int x1), (2, .int x2), (3, .int x3)]) C dX10_could_6 (by decide) rfl ?_
  refine g_iload C dX10_could_8 0 rfl ?_
  refine g_if_eq (tgt := 16) C dX10_could_10 (by decide) (fun c2 => ?_) (fun c2 => ?_)
  · have hw := hw.1 c2
    refine g_aload_n C dX10_could_16 rfl 1 rfl ?_
    refine g_getQ C dX10_could_17 ft_302 z0 (hWF.q z0 10 rfl) ?_
    have zz3 := hWF.r z0 10 rfl
    refine g_iload_n C dX10_could_20 rfl 2 rfl ?_
    have hrzz4 := rft_eR hw.1
    refine g_aaldR C dX10_could_21 zz3 hw.1 (hWF.q zz3 _ hrzz4) ?_
    have zz4 := hWF.r zz3 _ hrzz4
    have hw := hw.2
    refine g_astore (lv' := [(5, .ref (ad (rq Q (rq Q h0 10) x1.toNatClampNeg))), (4, .int r1), (0, .ref (ad h0)), (1, .int x1), (2, .int x2), (3, .int x3)]) C dX10_could_22 (by decide) rfl ?_
    refine g_aload C dX10_could_24 0 rfl ?_
    refine g_iload_n C dX10_could_26 rfl 5 rfl ?_
    refine g_aload_n C dX10_could_27 rfl 2 rfl ?_
    refine g_getQ C dX10_could_28 ft_216 z0 (hWF.q z0 0 rfl) ?_
    have zz5 := hWF.r z0 0 rfl
    refine g_getI C dX10_could_31 ft_241 zz5 ?_
    refine g_callVi (As := [.int x3, .int (I (rq Q h0 0) 3)]) C dX10_could_34 ft_306 zz4 ft_315 ft_316 (met_X6_covers l hWF zz4 hw) ⟨rfl, rfl, Nat.le_of_ble_eq_true rfl, Nat.le_of_ble_eq_true rfl⟩ ⟨Nat.zero_le _, Nat.zero_le _⟩ rfl rfl (Nat.le_of_ble_eq_true rfl) (fun r6 I6 J6 Q6 hp => ?_)
    obtain ⟨hw, eI, eJ, eQ, hWF⟩ := hp
    have eI : I = I6 := Eq.symm eI
    subst eI
    have eJ : J = J6 := Eq.symm eJ
    subst eJ
    have eQ : Q = Q6 := Eq.symm eQ
    subst eQ
    try dsimp only at hw hWF
    refine g_if_ne (tgt := 43) C dX10_could_37 (by decide) (fun c7 => ?_) (fun c7 => ?_)
    · have hw := hw.1 c7
      refine g_iconst (v := (0 : Int32)) C dX10_could_43 (by decide) ?_
      refine g_istore (lv' := [(6, .int (0 : Int32)), (5, .ref (ad (rq Q (rq Q h0 10) x1.toNatClampNeg))), (4, .int r1), (0, .ref (ad h0)), (1, .int x1), (2, .int x2), (3, .int x3)]) C dX10_could_44 (by decide) rfl ?_
      have K109_u17 : (wp_X10_sentBy I J Q h0 (0 : Int32) (rq Q (rq Q h0 10) x1.toNatClampNeg) x3 (fun r19 I19 => ((r19 = 0 → wp_X10_sentBy I19 J Q h0 (1 : Int32) (rq Q (rq Q h0 10) x1.toNatClampNeg) x3 (fun r21 I21 => ((r21 = 0 → post ((0 : Int32) + (0 : Int32)) I21) ∧ (¬ r21 = 0 → post ((0 : Int32) + (2 : Int32)) I21)))) ∧ (¬ r19 = 0 → wp_X10_sentBy I19 J Q h0 (1 : Int32) (rq Q (rq Q h0 10) x1.toNatClampNeg) x3 (fun r23 I23 => ((r23 = 0 → post ((1 : Int32) + (0 : Int32)) I23) ∧ (¬ r23 = 0 → post ((1 : Int32) + (2 : Int32)) I23))))))) → WF Z N T Q → GG p l e ({ frames := 5, cells := 0, slots := 0, locals := 120 }) s m [.ref (ad h0), .int x1, .int x2, .int x3].toArray below meth c 9 A D D2 0 0 (MQ below (va_Qi (fun (r : Int32) (u : KS) => post r u.1 ∧ u.2.1 = J ∧ u.2.2 = Q ∧ WF Z N T u.2.2) (Bw D D2 ad N T) A) [.ref (ad h0), .int x1, .int x2, .int x3].toArray s 0 0 A) ad N T I J Q 109 [(0, .ref (ad h0)), (3, .int x3), (5, .ref (ad (rq Q (rq Q h0 10) x1.toNatClampNeg)))] [] := by
        intro  hw hWF
        refine g_aload_n C dX10_could_109 rfl 0 rfl ?_
        refine g_iconst (v := (0 : Int32)) C dX10_could_110 (by decide) ?_
        refine g_aload C dX10_could_111 2 rfl ?_
        refine g_iload_n C dX10_could_113 rfl 1 rfl ?_
        refine g_callVi (As := [.int (0 : Int32), .ref (ad (rq Q (rq Q h0 10) x1.toNatClampNeg)), .int x3]) C dX10_could_114 ft_293 z0 ft_313 ft_314 (met_X10_sentBy l hWF z0 zz4 hw) ⟨rfl, rfl, Nat.le_of_ble_eq_true rfl, Nat.le_of_ble_eq_true rfl⟩ ⟨Nat.zero_le _, Nat.zero_le _⟩ rfl rfl (Nat.le_of_ble_eq_true rfl) (fun r19 I19 J19 Q19 hp => ?_)
        obtain ⟨hw, eJ, eQ, hWF⟩ := hp
        have eJ : J = J19 := Eq.symm eJ
        subst eJ
        have eQ : Q = Q19 := Eq.symm eQ
        subst eQ
        try dsimp only at hw hWF
        refine g_if_eq (tgt := 124) C dX10_could_117 (by decide) (fun c20 => ?_) (fun c20 => ?_)
        · have hw := hw.1 c20
          refine g_iconst (v := (0 : Int32)) C dX10_could_124 (by decide) ?_
          refine g_aload_n C dX10_could_125 rfl 0 rfl ?_
          refine g_iconst (v := (1 : Int32)) C dX10_could_126 (by decide) ?_
          refine g_aload C dX10_could_127 2 rfl ?_
          refine g_iload_n C dX10_could_129 rfl 1 rfl ?_
          refine g_callVi (As := [.int (1 : Int32), .ref (ad (rq Q (rq Q h0 10) x1.toNatClampNeg)), .int x3]) C dX10_could_130 ft_293 z0 ft_313 ft_314 (met_X10_sentBy l hWF z0 zz4 hw) ⟨rfl, rfl, Nat.le_of_ble_eq_true rfl, Nat.le_of_ble_eq_true rfl⟩ ⟨Nat.zero_le _, Nat.zero_le _⟩ rfl rfl (Nat.le_of_ble_eq_true rfl) (fun r21 I21 J21 Q21 hp => ?_)
          obtain ⟨hw, eJ, eQ, hWF⟩ := hp
          have eJ : J = J21 := Eq.symm eJ
          subst eJ
          have eQ : Q = Q21 := Eq.symm eQ
          subst eQ
          try dsimp only at hw hWF
          refine g_if_eq (tgt := 140) C dX10_could_133 (by decide) (fun c22 => ?_) (fun c22 => ?_)
          · have hw := hw.1 c22
            refine g_iconst (v := (0 : Int32)) C dX10_could_140 (by decide) ?_
            refine g_iadd C dX10_could_141 ?_
            exact g_iret C dX10_could_142 hr ⟨hw, rfl, rfl, hWF⟩
          · have hw := hw.2 c22
            refine g_iconst (v := (2 : Int32)) C dX10_could_136 (by decide) ?_
            refine g_goto C dX10_could_137 (tgt := 141) (by decide) ?_
            refine g_iadd C dX10_could_141 ?_
            exact g_iret C dX10_could_142 hr ⟨hw, rfl, rfl, hWF⟩
        · have hw := hw.2 c20
          refine g_iconst (v := (1 : Int32)) C dX10_could_120 (by decide) ?_
          refine g_goto C dX10_could_121 (tgt := 125) (by decide) ?_
          refine g_aload_n C dX10_could_125 rfl 0 rfl ?_
          refine g_iconst (v := (1 : Int32)) C dX10_could_126 (by decide) ?_
          refine g_aload C dX10_could_127 2 rfl ?_
          refine g_iload_n C dX10_could_129 rfl 1 rfl ?_
          refine g_callVi (As := [.int (1 : Int32), .ref (ad (rq Q (rq Q h0 10) x1.toNatClampNeg)), .int x3]) C dX10_could_130 ft_293 z0 ft_313 ft_314 (met_X10_sentBy l hWF z0 zz4 hw) ⟨rfl, rfl, Nat.le_of_ble_eq_true rfl, Nat.le_of_ble_eq_true rfl⟩ ⟨Nat.zero_le _, Nat.zero_le _⟩ rfl rfl (Nat.le_of_ble_eq_true rfl) (fun r23 I23 J23 Q23 hp => ?_)
          obtain ⟨hw, eJ, eQ, hWF⟩ := hp
          have eJ : J = J23 := Eq.symm eJ
          subst eJ
          have eQ : Q = Q23 := Eq.symm eQ
          subst eQ
          try dsimp only at hw hWF
          refine g_if_eq (tgt := 140) C dX10_could_133 (by decide) (fun c24 => ?_) (fun c24 => ?_)
          · have hw := hw.1 c24
            refine g_iconst (v := (0 : Int32)) C dX10_could_140 (by decide) ?_
            refine g_iadd C dX10_could_141 ?_
            exact g_iret C dX10_could_142 hr ⟨hw, rfl, rfl, hWF⟩
          · have hw := hw.2 c24
            refine g_iconst (v := (2 : Int32)) C dX10_could_136 (by decide) ?_
            refine g_goto C dX10_could_137 (tgt := 141) (by decide) ?_
            refine g_iadd C dX10_could_141 ?_
            exact g_iret C dX10_could_142 hr ⟨hw, rfl, rfl, hWF⟩
      have L46_u17 : ∀ (n46 : Nat) (x6_8 : Int32), wp_X10_could_L46 I J Q h0 x3 (rq Q (rq Q h0 10) x1.toNatClampNeg) post (wp_X10_sentBy I J Q h0 (0 : Int32) (rq Q (rq Q h0 10) x1.toNatClampNeg) x3 (fun r19 I19 => ((r19 = 0 → wp_X10_sentBy I19 J Q h0 (1 : Int32) (rq Q (rq Q h0 10) x1.toNatClampNeg) x3 (fun r21 I21 => ((r21 = 0 → post ((0 : Int32) + (0 : Int32)) I21) ∧ (¬ r21 = 0 → post ((0 : Int32) + (2 : Int32)) I21)))) ∧ (¬ r19 = 0 → wp_X10_sentBy I19 J Q h0 (1 : Int32) (rq Q (rq Q h0 10) x1.toNatClampNeg) x3 (fun r23 I23 => ((r23 = 0 → post ((1 : Int32) + (0 : Int32)) I23) ∧ (¬ r23 = 0 → post ((1 : Int32) + (2 : Int32)) I23))))))) n46 x6_8 → WF Z N T Q → GG p l e ({ frames := 5, cells := 0, slots := 0, locals := 120 }) s m [.ref (ad h0), .int x1, .int x2, .int x3].toArray below meth c 9 A D D2 0 0 (MQ below (va_Qi (fun (r : Int32) (u : KS) => post r u.1 ∧ u.2.1 = J ∧ u.2.2 = Q ∧ WF Z N T u.2.2) (Bw D D2 ad N T) A) [.ref (ad h0), .int x1, .int x2, .int x3].toArray s 0 0 A) ad N T I J Q 46 [(0, .ref (ad h0)), (3, .int x3), (5, .ref (ad (rq Q (rq Q h0 10) x1.toNatClampNeg))), (6, .int x6_8)] [] := by
        intro n46
        induction n46 with
        | zero => intro x6_8 hw; exact hw.elim
        | succ n46 ih_u17 =>
          intro x6_8 hw hWF
          unfold wp_X10_could_L46 at hw
          refine g_iload C dX10_could_46 3 rfl ?_
          refine g_aload_n C dX10_could_48 rfl 0 rfl ?_
          refine g_getQ C dX10_could_49 ft_216 z0 (hWF.q z0 0 rfl) ?_
          have zz26 := hWF.r z0 0 rfl
          refine g_getI C dX10_could_52 ft_241 zz26 ?_
          refine g_icmp_ge (tgt := 109) C dX10_could_55 (by decide) (fun c27 => ?_) (fun c27 => ?_)
          · have hw := hw.1 c27
            refine g_sub [0, 1, 2] rfl ?_
            exact K109_u17 hw hWF
          · have hw := hw.2 c27
            refine g_aload C dX10_could_58 2 rfl ?_
            refine g_getQ C dX10_could_60 ft_311 zz4 (hWF.q zz4 0 rfl) ?_
            have zz28 := hWF.r zz4 0 rfl
            refine g_iload_n C dX10_could_63 rfl 1 rfl ?_
            refine g_iload C dX10_could_64 3 rfl ?_
            refine g_iadd C dX10_could_66 ?_
            refine g_lald C dX10_could_67 zz28 hw.1 ?_
            have hw := hw.2
            refine g_lstore (lv' := [(7, .long (J (rq Q (rq Q (rq Q h0 10) x1.toNatClampNeg) 0) (x3 + x6_8).toNatClampNeg)), (0, .ref (ad h0)), (3, .int x3), (5, .ref (ad (rq Q (rq Q h0 10) x1.toNatClampNeg))), (6, .int x6_8)]) C dX10_could_68 (by decide) rfl ?_
            refine g_lload C dX10_could_70 0 rfl ?_
            refine g_lconst (v := (0 : Int64)) C dX10_could_72 (by decide) ?_
            refine g_lcmp C dX10_could_73 ?_
            refine g_if_lt (tgt := 91) C dX10_could_74 (by decide) (fun c29 => ?_) (fun c29 => ?_)
            · have hw := hw.1 c29
              refine g_lload C dX10_could_91 0 rfl ?_
              refine g_ldc2 C dX10_could_93 ft_312 ?_
              refine g_lcmp C dX10_could_96 ?_
              refine g_if_eq (tgt := 103) C dX10_could_97 (by decide) (fun c30 => ?_) (fun c30 => ?_)
              · have hw := hw.1 c30
                refine g_iinc (v := (x6_8 + (1 : Int32))) (lv' := [(6, .int (x6_8 + (1 : Int32))), (7, .long (J (rq Q (rq Q (rq Q h0 10) x1.toNatClampNeg) 0) (x3 + x6_8).toNatClampNeg)), (0, .ref (ad h0)), (3, .int x3), (5, .ref (ad (rq Q (rq Q h0 10) x1.toNatClampNeg)))]) C dX10_could_103 (q := 4) rfl rfl (by decide) rfl ?_
                refine g_goto C dX10_could_106 (tgt := 46) (by decide) ?_
                refine g_sub [2, 3, 4, 0] rfl ?_
                exact ih_u17 (x6_8 + (1 : Int32)) hw hWF
              · have hw := hw.2 c30
                refine g_bipush (v := (-2 : Int32)) C dX10_could_100 (by decide) ?_
                exact g_iret C dX10_could_102 hr ⟨hw, rfl, rfl, hWF⟩
            · have hw := hw.2 c29
              refine g_lload C dX10_could_77 0 rfl ?_
              refine g_aload_n C dX10_could_79 rfl 1 rfl ?_
              refine g_getQ C dX10_could_80 ft_216 z0 (hWF.q z0 0 rfl) ?_
              have zz31 := hWF.r z0 0 rfl
              refine g_getI C dX10_could_83 ft_242 zz31 ?_
              refine g_i2l C dX10_could_86 ?_
              refine g_lcmp C dX10_could_87 ?_
              refine g_if_lt (tgt := 103) C dX10_could_88 (by decide) (fun c32 => ?_) (fun c32 => ?_)
              · have hw := hw.1 c32
                refine g_iinc (v := (x6_8 + (1 : Int32))) (lv' := [(6, .int (x6_8 + (1 : Int32))), (7, .long (J (rq Q (rq Q (rq Q h0 10) x1.toNatClampNeg) 0) (x3 + x6_8).toNatClampNeg)), (0, .ref (ad h0)), (3, .int x3), (5, .ref (ad (rq Q (rq Q h0 10) x1.toNatClampNeg)))]) C dX10_could_103 (q := 4) rfl rfl (by decide) rfl ?_
                refine g_goto C dX10_could_106 (tgt := 46) (by decide) ?_
                refine g_sub [2, 3, 4, 0] rfl ?_
                exact ih_u17 (x6_8 + (1 : Int32)) hw hWF
              · have hw := hw.2 c32
                refine g_lload C dX10_could_91 0 rfl ?_
                refine g_ldc2 C dX10_could_93 ft_312 ?_
                refine g_lcmp C dX10_could_96 ?_
                refine g_if_eq (tgt := 103) C dX10_could_97 (by decide) (fun c33 => ?_) (fun c33 => ?_)
                · have hw := hw.1 c33
                  refine g_iinc (v := (x6_8 + (1 : Int32))) (lv' := [(6, .int (x6_8 + (1 : Int32))), (7, .long (J (rq Q (rq Q (rq Q h0 10) x1.toNatClampNeg) 0) (x3 + x6_8).toNatClampNeg)), (0, .ref (ad h0)), (3, .int x3), (5, .ref (ad (rq Q (rq Q h0 10) x1.toNatClampNeg)))]) C dX10_could_103 (q := 4) rfl rfl (by decide) rfl ?_
                  refine g_goto C dX10_could_106 (tgt := 46) (by decide) ?_
                  refine g_sub [2, 3, 4, 0] rfl ?_
                  exact ih_u17 (x6_8 + (1 : Int32)) hw hWF
                · have hw := hw.2 c33
                  refine g_bipush (v := (-2 : Int32)) C dX10_could_100 (by decide) ?_
                  exact g_iret C dX10_could_102 hr ⟨hw, rfl, rfl, hWF⟩
      obtain ⟨n_u17, hw⟩ := hw
      refine g_sub [3, 6, 1, 0] rfl ?_
      exact L46_u17 n_u17 (0 : Int32) hw hWF
    · have hw := hw.2 c7
      refine g_bipush (v := (-13 : Int32)) C dX10_could_40 (by decide) ?_
      exact g_iret C dX10_could_42 hr ⟨hw, rfl, rfl, hWF⟩
  · have hw := hw.2 c2
    refine g_iload C dX10_could_13 0 rfl ?_
    exact g_iret C dX10_could_15 hr ⟨hw, rfl, rfl, hWF⟩
def wp_X10_film_L67 (If_15 : KI) (Qf_15 : KQ) (f0_15 : Nat) (f1_15 : Int32) (f2_15 : Int32) (f4_15 : Int32) (f6_15 : Int32) (post : Int32 → KJ → Prop) : Nat → KJ → Int32 → Prop
  | 0, _, _ => False
  | n67 + 1, J_15, x7_15 => ((f6_15 ≤ x7_15 → post f6_15 J_15) ∧ (¬ f6_15 ≤ x7_15 → (vp_in f2_15 4 ∧ (vp_in f1_15 6 ∧ wp_X7_row If_15 Qf_15 (rq Qf_15 (rq Qf_15 (rq Qf_15 f0_15 0) 1) f1_15.toNatClampNeg) x7_15 (fun r22 => wp_X6_set If_15 J_15 Qf_15 (rq Qf_15 (rq Qf_15 f0_15 10) f2_15.toNatClampNeg) (f4_15 + x7_15) (r22.toInt64) (fun J23 => wp_X10_film_L67 If_15 Qf_15 f0_15 f1_15 f2_15 f4_15 f6_15 post n67 J23 (x7_15 + (1 : Int32))))))))
def wp_X10_film (I : KI) (J : KJ) (Q : KQ) (h0 : Nat) (x1 : Int32) (x2 : Int32) (x3 : Int32) (x4 : Int32) (post : Int32 → KJ → Prop) : Prop := wp_X1_hasNode I (rq Q h0 0) x1 (fun r2 => ((r2 = 0 → post (-1 : Int32) J) ∧ (¬ r2 = 0 → wp_X10_refusal I Q h0 x2 x3 (fun r5 => ((r5 = 0 → (vp_in x1 6 ∧ wp_X7_rank I Q (rq Q (rq Q (rq Q h0 0) 1) x1.toNatClampNeg) (fun r10 => (vp_in x2 4 ∧ wp_X6_covers I (rq Q (rq Q h0 10) x2.toNatClampNeg) x4 r10 (fun r13 => ((¬ r13 = 0 → (∃ q67, wp_X10_film_L67 I Q h0 x1 x2 x4 r10 post q67 J (0 : Int32))) ∧ (r13 = 0 → post (-13 : Int32) J))))))) ∧ (¬ r5 = 0 → post r5 J))))))
set_option maxHeartbeats 4000000 in
set_option maxRecDepth 100000 in
theorem met_X10_film {Z : Nat → Prop} {A : Nat → Prop} {D : va_G} {D2 : Nat → ClassId} {ad : Nat → Nat} {N : Nat} {T : Nat → Nat × Nat} (l : Launch) {I : KI} {J : KJ} {Q : KQ} {h0 : Nat} {x1 : Int32} {x2 : Int32} {x3 : Int32} {x4 : Int32} {post : Int32 → KJ → Prop} (hWF : WF Z N T Q) (z0 : OKr Z N T h0 (10, 0)) (hw : wp_X10_film I J Q h0 x1 x2 x3 x4 post) : Met l yX10_film (.code yX10_film cX10_film 8 (some .int) :: BIG) ({ frames := 2, cells := 0, slots := 0, locals := 42 }) (Pr D D2 A ad N T I J Q [.ref (ad h0), .int x1, .int x2, .int x3, .int x4]) (va_Qi (fun (r : Int32) (u : KS) => post r u.2.1 ∧ u.1 = I ∧ u.2.2 = Q ∧ WF Z N T u.2.2) (Bw D D2 ad N T) A) 0 0 A := by
  refine Met_GG (lv0 := [(0, .ref (ad h0)), (1, .int x1), (2, .int x2), (3, .int x3), (4, .int x4)]) (by decide +kernel) [.ref (ad h0), .int x1, .int x2, .int x3, .int x4] (Nat.le_of_ble_eq_true rfl) rfl ?_
  intro p e s m below meth c C hr
  have C : CX p s m [.ref (ad h0), .int x1, .int x2, .int x3, .int x4].toArray meth c cX10_film 8 RX10 A D D2 := C
  unfold wp_X10_film at hw
  refine g_aload_n C dX10_film_0 rfl 0 rfl ?_
  refine g_getQ C dX10_film_1 ft_216 z0 (hWF.q z0 0 rfl) ?_
  have zz1 := hWF.r z0 0 rfl
  refine g_iload_n C dX10_film_4 rfl 1 rfl ?_
  refine g_callVi (As := [.int x1]) C dX10_film_5 ft_46 zz1 ft_227 ft_228 (met_X1_hasNode l hWF zz1 hw) ⟨rfl, rfl, Nat.le_of_ble_eq_true rfl, Nat.le_of_ble_eq_true rfl⟩ ⟨Nat.zero_le _, Nat.zero_le _⟩ rfl rfl (Nat.le_of_ble_eq_true rfl) (fun r2 I2 J2 Q2 hp => ?_)
  obtain ⟨hw, eI, eJ, eQ, hWF⟩ := hp
  have eI : I = I2 := Eq.symm eI
  subst eI
  have eJ : J = J2 := Eq.symm eJ
  subst eJ
  have eQ : Q = Q2 := Eq.symm eQ
  subst eQ
  try dsimp only at hw hWF
  refine g_if_eq (tgt := 20) C dX10_film_8 (by decide) (fun c3 => ?_) (fun c3 => ?_)
  · have hw := hw.1 c3
    refine g_iconst (v := (-1 : Int32)) C dX10_film_20 (by decide) ?_
    refine g_istore (lv' := [(5, .int (-1 : Int32)), (0, .ref (ad h0)), (1, .int x1), (2, .int x2), (3, .int x3), (4, .int x4)]) C dX10_film_21 (by decide) rfl ?_
    refine g_iload C dX10_film_23 0 rfl ?_
    refine g_if_eq (tgt := 31) C dX10_film_25 (by decide) (fun c4 => absurd c4 (by decide)) (fun _ => ?_)
    refine g_iload C dX10_film_28 0 rfl ?_
    exact g_iret C dX10_film_30 hr ⟨hw, rfl, rfl, hWF⟩
  · have hw := hw.2 c3
    refine g_aload_n C dX10_film_11 rfl 0 rfl ?_
    refine g_iload_n C dX10_film_12 rfl 2 rfl ?_
    refine g_iload_n C dX10_film_13 rfl 3 rfl ?_
    refine g_callVi (As := [.int x2, .int x3]) C dX10_film_14 ft_293 z0 ft_317 ft_318 (met_X10_refusal l hWF z0 hw) ⟨rfl, rfl, Nat.le_of_ble_eq_true rfl, Nat.le_of_ble_eq_true rfl⟩ ⟨Nat.zero_le _, Nat.zero_le _⟩ rfl rfl (Nat.le_of_ble_eq_true rfl) (fun r5 I5 J5 Q5 hp => ?_)
    obtain ⟨hw, eI, eJ, eQ, hWF⟩ := hp
    have eI : I = I5 := Eq.symm eI
    subst eI
    have eJ : J = J5 := Eq.symm eJ
    subst eJ
    have eQ : Q = Q5 := Eq.symm eQ
    subst eQ
    try dsimp only at hw hWF
    refine g_goto C dX10_film_17 (tgt := 21) (by decide) ?_
    refine g_istore (lv' := [(5, .int r5), (0, .ref (ad h0)), (1, .int x1), (2, .int x2), (3, .int x3), (4, .int x4)]) C dX10_film_21 (by decide) rfl ?_
    refine g_iload C dX10_film_23 0 rfl ?_
    refine g_if_eq (tgt := 31) C dX10_film_25 (by decide) (fun c6 => ?_) (fun c6 => ?_)
    · have hw := hw.1 c6
      refine g_aload_n C dX10_film_31 rfl 1 rfl ?_
      refine g_getQ C dX10_film_32 ft_216 z0 (hWF.q z0 0 rfl) ?_
      have zz7 := hWF.r z0 0 rfl
      refine g_getQ C dX10_film_35 ft_218 zz7 (hWF.q zz7 1 rfl) ?_
      have zz8 := hWF.r zz7 1 rfl
      refine g_iload_n C dX10_film_38 rfl 2 rfl ?_
      have hrzz9 := rft_eS hw.1
      refine g_aaldS C dX10_film_39 zz8 hw.1 (hWF.q zz8 _ hrzz9) ?_
      have zz9 := hWF.r zz8 _ hrzz9
      have hw := hw.2
      refine g_callVi (As := []) C dX10_film_40 ft_22 zz9 ft_220 ft_32 (met_X7_rank l hWF zz9 hw) ⟨rfl, rfl, Nat.le_of_ble_eq_true rfl, Nat.le_of_ble_eq_true rfl⟩ ⟨Nat.zero_le _, Nat.zero_le _⟩ rfl rfl (Nat.le_of_ble_eq_true rfl) (fun r10 I10 J10 Q10 hp => ?_)
      obtain ⟨hw, eI, eJ, eQ, hWF⟩ := hp
      have eI : I = I10 := Eq.symm eI
      subst eI
      have eJ : J = J10 := Eq.symm eJ
      subst eJ
      have eQ : Q = Q10 := Eq.symm eQ
      subst eQ
      try dsimp only at hw hWF
      refine g_istore (lv' := [(6, .int r10), (5, .int r5), (0, .ref (ad h0)), (1, .int x1), (2, .int x2), (3, .int x3), (4, .int x4)]) C dX10_film_43 (by decide) rfl ?_
      refine g_aload_n C dX10_film_45 rfl 2 rfl ?_
      refine g_getQ C dX10_film_46 ft_302 z0 (hWF.q z0 10 rfl) ?_
      have zz11 := hWF.r z0 10 rfl
      refine g_iload_n C dX10_film_49 rfl 4 rfl ?_
      have hrzz12 := rft_eR hw.1
      refine g_aaldR C dX10_film_50 zz11 hw.1 (hWF.q zz11 _ hrzz12) ?_
      have zz12 := hWF.r zz11 _ hrzz12
      have hw := hw.2
      refine g_iload C dX10_film_51 6 rfl ?_
      refine g_iload C dX10_film_53 0 rfl ?_
      refine g_callVi (As := [.int x4, .int r10]) C dX10_film_55 ft_306 zz12 ft_315 ft_316 (met_X6_covers l hWF zz12 hw) ⟨rfl, rfl, Nat.le_of_ble_eq_true rfl, Nat.le_of_ble_eq_true rfl⟩ ⟨Nat.zero_le _, Nat.zero_le _⟩ rfl rfl (Nat.le_of_ble_eq_true rfl) (fun r13 I13 J13 Q13 hp => ?_)
      obtain ⟨hw, eI, eJ, eQ, hWF⟩ := hp
      have eI : I = I13 := Eq.symm eI
      subst eI
      have eJ : J = J13 := Eq.symm eJ
      subst eJ
      have eQ : Q = Q13 := Eq.symm eQ
      subst eQ
      try dsimp only at hw hWF
      refine g_if_ne (tgt := 64) C dX10_film_58 (by decide) (fun c14 => ?_) (fun c14 => ?_)
      · have hw := hw.1 c14
        refine g_iconst (v := (0 : Int32)) C dX10_film_64 (by decide) ?_
        refine g_istore (lv' := [(7, .int (0 : Int32)), (6, .int r10), (5, .int r5), (0, .ref (ad h0)), (1, .int x1), (2, .int x2), (3, .int x3), (4, .int x4)]) C dX10_film_65 (by decide) rfl ?_
        have L67_u24 : ∀ (n67 : Nat) (J_15 : KJ) (x7_15 : Int32), wp_X10_film_L67 I Q h0 x1 x2 x4 r10 post n67 J_15 x7_15 → WF Z N T Q → GG p l e ({ frames := 2, cells := 0, slots := 0, locals := 42 }) s m [.ref (ad h0), .int x1, .int x2, .int x3, .int x4].toArray below meth c 8 A D D2 0 0 (MQ below (va_Qi (fun (r : Int32) (u : KS) => post r u.2.1 ∧ u.1 = I ∧ u.2.2 = Q ∧ WF Z N T u.2.2) (Bw D D2 ad N T) A) [.ref (ad h0), .int x1, .int x2, .int x3, .int x4].toArray s 0 0 A) ad N T I J_15 Q 67 [(0, .ref (ad h0)), (1, .int x1), (2, .int x2), (4, .int x4), (6, .int r10), (7, .int x7_15)] [] := by
          intro n67
          induction n67 with
          | zero => intro J_15 x7_15 hw; exact hw.elim
          | succ n67 ih_u24 =>
            intro J_15 x7_15 hw hWF
            unfold wp_X10_film_L67 at hw
            refine g_iload C dX10_film_67 5 rfl ?_
            refine g_iload C dX10_film_69 4 rfl ?_
            refine g_icmp_ge (tgt := 109) C dX10_film_71 (by decide) (fun c26 => ?_) (fun c26 => ?_)
            · have hw := hw.1 c26
              refine g_iload C dX10_film_109 4 rfl ?_
              exact g_iret C dX10_film_111 hr ⟨hw, rfl, rfl, hWF⟩
            · have hw := hw.2 c26
              refine g_aload_n C dX10_film_74 rfl 0 rfl ?_
              refine g_getQ C dX10_film_75 ft_302 z0 (hWF.q z0 10 rfl) ?_
              have zz27 := hWF.r z0 10 rfl
              refine g_iload_n C dX10_film_78 rfl 2 rfl ?_
              have hrzz28 := rft_eR hw.1
              refine g_aaldR C dX10_film_79 zz27 hw.1 (hWF.q zz27 _ hrzz28) ?_
              have zz28 := hWF.r zz27 _ hrzz28
              have hw := hw.2
              refine g_iload C dX10_film_80 3 rfl ?_
              refine g_iload C dX10_film_82 5 rfl ?_
              refine g_iadd C dX10_film_84 ?_
              refine g_aload_n C dX10_film_85 rfl 0 rfl ?_
              refine g_getQ C dX10_film_86 ft_216 z0 (hWF.q z0 0 rfl) ?_
              have zz29 := hWF.r z0 0 rfl
              refine g_getQ C dX10_film_89 ft_218 zz29 (hWF.q zz29 1 rfl) ?_
              have zz30 := hWF.r zz29 1 rfl
              refine g_iload_n C dX10_film_92 rfl 1 rfl ?_
              have hrzz31 := rft_eS hw.1
              refine g_aaldS C dX10_film_93 zz30 hw.1 (hWF.q zz30 _ hrzz31) ?_
              have zz31 := hWF.r zz30 _ hrzz31
              have hw := hw.2
              refine g_iload C dX10_film_94 5 rfl ?_
              refine g_callVi (As := [.int x7_15]) C dX10_film_96 ft_22 zz31 ft_237 ft_238 (met_X7_row l hWF zz31 hw) ⟨rfl, rfl, Nat.le_of_ble_eq_true rfl, Nat.le_of_ble_eq_true rfl⟩ ⟨Nat.zero_le _, Nat.zero_le _⟩ rfl rfl (Nat.le_of_ble_eq_true rfl) (fun r32 I32 J32 Q32 hp => ?_)
              obtain ⟨hw, eI, eJ, eQ, hWF⟩ := hp
              have eI : I = I32 := Eq.symm eI
              subst eI
              have eJ : J_15 = J32 := Eq.symm eJ
              subst eJ
              have eQ : Q = Q32 := Eq.symm eQ
              subst eQ
              try dsimp only at hw hWF
              refine g_i2l C dX10_film_99 ?_
              refine g_callVv (As := [.int (x4 + x7_15), .long (r32.toInt64)]) C dX10_film_100 ft_306 zz28 ft_319 ft_320 (met_X6_set l hWF zz28 hw) ⟨rfl, rfl, Nat.le_of_ble_eq_true rfl, Nat.le_of_ble_eq_true rfl⟩ ⟨Nat.zero_le _, Nat.zero_le _⟩ rfl rfl (Nat.le_of_ble_eq_true rfl) (fun I33 J33 Q33 hp => ?_)
              obtain ⟨hw, eI, eQ, hWF⟩ := hp
              have eI : I = I33 := Eq.symm eI
              subst eI
              have eQ : Q = Q33 := Eq.symm eQ
              subst eQ
              try dsimp only at hw hWF
              refine g_iinc (v := (x7_15 + (1 : Int32))) (lv' := [(7, .int (x7_15 + (1 : Int32))), (0, .ref (ad h0)), (1, .int x1), (2, .int x2), (4, .int x4), (6, .int r10)]) C dX10_film_103 (q := 5) rfl rfl (by decide) rfl ?_
              refine g_goto C dX10_film_106 (tgt := 67) (by decide) ?_
              refine g_sub [1, 2, 3, 4, 5, 0] rfl ?_
              exact ih_u24 J33 (x7_15 + (1 : Int32)) hw hWF
        obtain ⟨n_u24, hw⟩ := hw
        refine g_sub [3, 4, 5, 7, 1, 0] rfl ?_
        exact L67_u24 n_u24 J (0 : Int32) hw hWF
      · have hw := hw.2 c14
        refine g_bipush (v := (-13 : Int32)) C dX10_film_61 (by decide) ?_
        exact g_iret C dX10_film_63 hr ⟨hw, rfl, rfl, hWF⟩
    · have hw := hw.2 c6
      refine g_iload C dX10_film_28 0 rfl ?_
      exact g_iret C dX10_film_30 hr ⟨hw, rfl, rfl, hWF⟩
def wp_X10_sheet (I : KI) (J : KJ) (Q : KQ) (h0 : Nat) (x1 : Int32) (x2 : Int32) (x3 : Int32) (post : Int32 → KI → KJ → Prop) : Prop := wp_X10_isSheet x1 (fun r1 => ((r1 = 0 → post (-1 : Int32) I J) ∧ (¬ r1 = 0 → wp_X10_isLane x2 (fun r3 => ((r3 = 0 → post (-1 : Int32) I J) ∧ (¬ r3 = 0 → ((x3 ≤ (24 : Int32) → ((0 ≤ x3 → (vp_in x1 4 ∧ wp_X6_renew I J Q (rq Q (rq Q h0 10) x1.toNatClampNeg) x2 x3 (fun I9 J9 => post x3 I9 J9))) ∧ (¬ 0 ≤ x3 → post (-14 : Int32) I J))) ∧ (¬ x3 ≤ (24 : Int32) → post (-1 : Int32) I J))))))))
set_option maxHeartbeats 4000000 in
set_option maxRecDepth 100000 in
theorem met_X10_sheet {Z : Nat → Prop} {A : Nat → Prop} {D : va_G} {D2 : Nat → ClassId} {ad : Nat → Nat} {N : Nat} {T : Nat → Nat × Nat} (l : Launch) {I : KI} {J : KJ} {Q : KQ} {h0 : Nat} {x1 : Int32} {x2 : Int32} {x3 : Int32} {post : Int32 → KI → KJ → Prop} (hWF : WF Z N T Q) (z0 : OKr Z N T h0 (10, 0)) (hw : wp_X10_sheet I J Q h0 x1 x2 x3 post) : Met l yX10_sheet (.code yX10_sheet cX10_sheet 4 (some .int) :: BIG) ({ frames := 1, cells := 0, slots := 0, locals := 23 }) (Pr D D2 A ad N T I J Q [.ref (ad h0), .int x1, .int x2, .int x3]) (va_Qi (fun (r : Int32) (u : KS) => post r u.1 u.2.1 ∧ u.2.2 = Q ∧ WF Z N T u.2.2) (Bw D D2 ad N T) A) 0 0 A := by
  refine Met_GG (lv0 := [(0, .ref (ad h0)), (1, .int x1), (2, .int x2), (3, .int x3)]) (by decide +kernel) [.ref (ad h0), .int x1, .int x2, .int x3] (Nat.le_of_ble_eq_true rfl) rfl ?_
  intro p e s m below meth c C hr
  have C : CX p s m [.ref (ad h0), .int x1, .int x2, .int x3].toArray meth c cX10_sheet 4 RX10 A D D2 := C
  unfold wp_X10_sheet at hw
  refine g_iload_n C dX10_sheet_0 rfl 1 rfl ?_
  refine g_callSi (As := [.int x1]) C dX10_sheet_1 ft_309 ft_310 (met_X10_isSheet l hWF  hw) ⟨rfl, rfl, Nat.le_of_ble_eq_true rfl, Nat.le_of_ble_eq_true rfl⟩ ⟨Nat.zero_le _, Nat.zero_le _⟩ rfl rfl (Nat.le_of_ble_eq_true rfl) (fun r1 I1 J1 Q1 hp => ?_)
  obtain ⟨hw, eI, eJ, eQ, hWF⟩ := hp
  have eI : I = I1 := Eq.symm eI
  subst eI
  have eJ : J = J1 := Eq.symm eJ
  subst eJ
  have eQ : Q = Q1 := Eq.symm eQ
  subst eQ
  try dsimp only at hw hWF
  refine g_if_eq (tgt := 20) C dX10_sheet_4 (by decide) (fun c2 => ?_) (fun c2 => ?_)
  · have hw := hw.1 c2
    refine g_iconst (v := (-1 : Int32)) C dX10_sheet_20 (by decide) ?_
    exact g_iret C dX10_sheet_21 hr ⟨hw, rfl, hWF⟩
  · have hw := hw.2 c2
    refine g_iload_n C dX10_sheet_7 rfl 2 rfl ?_
    refine g_callSi (As := [.int x2]) C dX10_sheet_8 ft_307 ft_308 (met_X10_isLane l hWF  hw) ⟨rfl, rfl, Nat.le_of_ble_eq_true rfl, Nat.le_of_ble_eq_true rfl⟩ ⟨Nat.zero_le _, Nat.zero_le _⟩ rfl rfl (Nat.le_of_ble_eq_true rfl) (fun r3 I3 J3 Q3 hp => ?_)
    obtain ⟨hw, eI, eJ, eQ, hWF⟩ := hp
    have eI : I = I3 := Eq.symm eI
    subst eI
    have eJ : J = J3 := Eq.symm eJ
    subst eJ
    have eQ : Q = Q3 := Eq.symm eQ
    subst eQ
    try dsimp only at hw hWF
    refine g_if_eq (tgt := 20) C dX10_sheet_11 (by decide) (fun c4 => ?_) (fun c4 => ?_)
    · have hw := hw.1 c4
      refine g_iconst (v := (-1 : Int32)) C dX10_sheet_20 (by decide) ?_
      exact g_iret C dX10_sheet_21 hr ⟨hw, rfl, hWF⟩
    · have hw := hw.2 c4
      refine g_iload_n C dX10_sheet_14 rfl 3 rfl ?_
      refine g_bipush (v := (24 : Int32)) C dX10_sheet_15 (by decide) ?_
      refine g_icmp_le (tgt := 22) C dX10_sheet_17 (by decide) (fun c5 => ?_) (fun c5 => ?_)
      · have hw := hw.1 c5
        refine g_iload_n C dX10_sheet_22 rfl 3 rfl ?_
        refine g_if_ge (tgt := 29) C dX10_sheet_23 (by decide) (fun c6 => ?_) (fun c6 => ?_)
        · have hw := hw.1 c6
          refine g_aload_n C dX10_sheet_29 rfl 0 rfl ?_
          refine g_getQ C dX10_sheet_30 ft_302 z0 (hWF.q z0 10 rfl) ?_
          have zz7 := hWF.r z0 10 rfl
          refine g_iload_n C dX10_sheet_33 rfl 1 rfl ?_
          have hrzz8 := rft_eR hw.1
          refine g_aaldR C dX10_sheet_34 zz7 hw.1 (hWF.q zz7 _ hrzz8) ?_
          have zz8 := hWF.r zz7 _ hrzz8
          have hw := hw.2
          refine g_iload_n C dX10_sheet_35 rfl 2 rfl ?_
          refine g_iload_n C dX10_sheet_36 rfl 3 rfl ?_
          refine g_callVv (As := [.int x2, .int x3]) C dX10_sheet_37 ft_306 zz8 ft_321 ft_322 (met_X6_renew l hWF zz8 hw) ⟨rfl, rfl, Nat.le_of_ble_eq_true rfl, Nat.le_of_ble_eq_true rfl⟩ ⟨Nat.zero_le _, Nat.zero_le _⟩ rfl rfl (Nat.le_of_ble_eq_true rfl) (fun I9 J9 Q9 hp => ?_)
          obtain ⟨hw, eQ, hWF⟩ := hp
          have eQ : Q = Q9 := Eq.symm eQ
          subst eQ
          try dsimp only at hw hWF
          refine g_iload_n C dX10_sheet_40 rfl 3 rfl ?_
          exact g_iret C dX10_sheet_41 hr ⟨hw, rfl, hWF⟩
        · have hw := hw.2 c6
          refine g_bipush (v := (-14 : Int32)) C dX10_sheet_26 (by decide) ?_
          exact g_iret C dX10_sheet_28 hr ⟨hw, rfl, hWF⟩
      · have hw := hw.2 c5
        refine g_iconst (v := (-1 : Int32)) C dX10_sheet_20 (by decide) ?_
        exact g_iret C dX10_sheet_21 hr ⟨hw, rfl, hWF⟩
def wp_X10_drop (I : KI) (Q : KQ) (h0 : Nat) (x1 : Int32) (post : Int32 → KI → Prop) : Prop := wp_X10_isSheet x1 (fun r1 => ((¬ r1 = 0 → (vp_in x1 4 ∧ wp_X6_isNothing I (rq Q (rq Q h0 10) x1.toNatClampNeg) (fun r5 => ((r5 = 0 → (vp_in x1 4 ∧ wp_X6_lose I (rq Q (rq Q h0 10) x1.toNatClampNeg) (fun r9 I9 => post r9 I9))) ∧ (¬ r5 = 0 → post (-11 : Int32) I))))) ∧ (r1 = 0 → post (-1 : Int32) I)))
set_option maxHeartbeats 4000000 in
set_option maxRecDepth 100000 in
theorem met_X10_drop {Z : Nat → Prop} {A : Nat → Prop} {D : va_G} {D2 : Nat → ClassId} {ad : Nat → Nat} {N : Nat} {T : Nat → Nat × Nat} (l : Launch) {I : KI} {J : KJ} {Q : KQ} {h0 : Nat} {x1 : Int32} {post : Int32 → KI → Prop} (hWF : WF Z N T Q) (z0 : OKr Z N T h0 (10, 0)) (hw : wp_X10_drop I Q h0 x1 post) : Met l yX10_drop (.code yX10_drop cX10_drop 2 (some .int) :: BIG) ({ frames := 1, cells := 0, slots := 0, locals := 20 }) (Pr D D2 A ad N T I J Q [.ref (ad h0), .int x1]) (va_Qi (fun (r : Int32) (u : KS) => post r u.1 ∧ u.2.1 = J ∧ u.2.2 = Q ∧ WF Z N T u.2.2) (Bw D D2 ad N T) A) 0 0 A := by
  refine Met_GG (lv0 := [(0, .ref (ad h0)), (1, .int x1)]) (by decide +kernel) [.ref (ad h0), .int x1] (Nat.le_of_ble_eq_true rfl) rfl ?_
  intro p e s m below meth c C hr
  have C : CX p s m [.ref (ad h0), .int x1].toArray meth c cX10_drop 2 RX10 A D D2 := C
  unfold wp_X10_drop at hw
  refine g_iload_n C dX10_drop_0 rfl 1 rfl ?_
  refine g_callSi (As := [.int x1]) C dX10_drop_1 ft_309 ft_310 (met_X10_isSheet l hWF  hw) ⟨rfl, rfl, Nat.le_of_ble_eq_true rfl, Nat.le_of_ble_eq_true rfl⟩ ⟨Nat.zero_le _, Nat.zero_le _⟩ rfl rfl (Nat.le_of_ble_eq_true rfl) (fun r1 I1 J1 Q1 hp => ?_)
  obtain ⟨hw, eI, eJ, eQ, hWF⟩ := hp
  have eI : I = I1 := Eq.symm eI
  subst eI
  have eJ : J = J1 := Eq.symm eJ
  subst eJ
  have eQ : Q = Q1 := Eq.symm eQ
  subst eQ
  try dsimp only at hw hWF
  refine g_if_ne (tgt := 9) C dX10_drop_4 (by decide) (fun c2 => ?_) (fun c2 => ?_)
  · have hw := hw.1 c2
    refine g_aload_n C dX10_drop_9 rfl 0 rfl ?_
    refine g_getQ C dX10_drop_10 ft_302 z0 (hWF.q z0 10 rfl) ?_
    have zz3 := hWF.r z0 10 rfl
    refine g_iload_n C dX10_drop_13 rfl 1 rfl ?_
    have hrzz4 := rft_eR hw.1
    refine g_aaldR C dX10_drop_14 zz3 hw.1 (hWF.q zz3 _ hrzz4) ?_
    have zz4 := hWF.r zz3 _ hrzz4
    have hw := hw.2
    refine g_callVi (As := []) C dX10_drop_15 ft_306 zz4 ft_304 ft_305 (met_X6_isNothing l hWF zz4 hw) ⟨rfl, rfl, Nat.le_of_ble_eq_true rfl, Nat.le_of_ble_eq_true rfl⟩ ⟨Nat.zero_le _, Nat.zero_le _⟩ rfl rfl (Nat.le_of_ble_eq_true rfl) (fun r5 I5 J5 Q5 hp => ?_)
    obtain ⟨hw, eI, eJ, eQ, hWF⟩ := hp
    have eI : I = I5 := Eq.symm eI
    subst eI
    have eJ : J = J5 := Eq.symm eJ
    subst eJ
    have eQ : Q = Q5 := Eq.symm eQ
    subst eQ
    try dsimp only at hw hWF
    refine g_if_eq (tgt := 24) C dX10_drop_18 (by decide) (fun c6 => ?_) (fun c6 => ?_)
    · have hw := hw.1 c6
      refine g_aload_n C dX10_drop_24 rfl 0 rfl ?_
      refine g_getQ C dX10_drop_25 ft_302 z0 (hWF.q z0 10 rfl) ?_
      have zz7 := hWF.r z0 10 rfl
      refine g_iload_n C dX10_drop_28 rfl 1 rfl ?_
      have hrzz8 := rft_eR hw.1
      refine g_aaldR C dX10_drop_29 zz7 hw.1 (hWF.q zz7 _ hrzz8) ?_
      have zz8 := hWF.r zz7 _ hrzz8
      have hw := hw.2
      refine g_callVi (As := []) C dX10_drop_30 ft_306 zz8 ft_323 ft_324 (met_X6_lose l hWF zz8 hw) ⟨rfl, rfl, Nat.le_of_ble_eq_true rfl, Nat.le_of_ble_eq_true rfl⟩ ⟨Nat.zero_le _, Nat.zero_le _⟩ rfl rfl (Nat.le_of_ble_eq_true rfl) (fun r9 I9 J9 Q9 hp => ?_)
      obtain ⟨hw, eJ, eQ, hWF⟩ := hp
      have eJ : J = J9 := Eq.symm eJ
      subst eJ
      have eQ : Q = Q9 := Eq.symm eQ
      subst eQ
      try dsimp only at hw hWF
      exact g_iret C dX10_drop_33 hr ⟨hw, rfl, rfl, hWF⟩
    · have hw := hw.2 c6
      refine g_bipush (v := (-11 : Int32)) C dX10_drop_21 (by decide) ?_
      exact g_iret C dX10_drop_23 hr ⟨hw, rfl, rfl, hWF⟩
  · have hw := hw.2 c2
    refine g_iconst (v := (-1 : Int32)) C dX10_drop_7 (by decide) ?_
    exact g_iret C dX10_drop_8 hr ⟨hw, rfl, rfl, hWF⟩
def wp_X10_item (I : KI) (J : KJ) (Q : KQ) (h0 : Nat) (x1 : Int32) (x2 : Int32) (x3 : Int32) (x4 : Int64) (post : Int32 → KJ → Prop) : Prop := wp_X10_refusal I Q h0 x1 x2 (fun r1 => ((r1 = 0 → (vp_in x1 4 ∧ wp_X6_covers I (rq Q (rq Q h0 10) x1.toNatClampNeg) x3 (1 : Int32) (fun r5 => ((¬ r5 = 0 → (vp_in x1 4 ∧ wp_X6_set I J Q (rq Q (rq Q h0 10) x1.toNatClampNeg) x3 x4 (fun J9 => post (1 : Int32) J9))) ∧ (r5 = 0 → post (-13 : Int32) J))))) ∧ (¬ r1 = 0 → post r1 J)))
set_option maxHeartbeats 4000000 in
set_option maxRecDepth 100000 in
theorem met_X10_item {Z : Nat → Prop} {A : Nat → Prop} {D : va_G} {D2 : Nat → ClassId} {ad : Nat → Nat} {N : Nat} {T : Nat → Nat × Nat} (l : Launch) {I : KI} {J : KJ} {Q : KQ} {h0 : Nat} {x1 : Int32} {x2 : Int32} {x3 : Int32} {x4 : Int64} {post : Int32 → KJ → Prop} (hWF : WF Z N T Q) (z0 : OKr Z N T h0 (10, 0)) (hw : wp_X10_item I J Q h0 x1 x2 x3 x4 post) : Met l yX10_item (.code yX10_item cX10_item 7 (some .int) :: BIG) ({ frames := 2, cells := 0, slots := 0, locals := 42 }) (Pr D D2 A ad N T I J Q [.ref (ad h0), .int x1, .int x2, .int x3, .long x4]) (va_Qi (fun (r : Int32) (u : KS) => post r u.2.1 ∧ u.1 = I ∧ u.2.2 = Q ∧ WF Z N T u.2.2) (Bw D D2 ad N T) A) 0 0 A := by
  refine Met_GG (lv0 := [(0, .ref (ad h0)), (1, .int x1), (2, .int x2), (3, .int x3), (4, .long x4)]) (by decide +kernel) [.ref (ad h0), .int x1, .int x2, .int x3, .long x4] (Nat.le_of_ble_eq_true rfl) rfl ?_
  intro p e s m below meth c C hr
  have C : CX p s m [.ref (ad h0), .int x1, .int x2, .int x3, .long x4].toArray meth c cX10_item 7 RX10 A D D2 := C
  unfold wp_X10_item at hw
  refine g_aload_n C dX10_item_0 rfl 0 rfl ?_
  refine g_iload_n C dX10_item_1 rfl 1 rfl ?_
  refine g_iload_n C dX10_item_2 rfl 2 rfl ?_
  refine g_callVi (As := [.int x1, .int x2]) C dX10_item_3 ft_293 z0 ft_317 ft_318 (met_X10_refusal l hWF z0 hw) ⟨rfl, rfl, Nat.le_of_ble_eq_true rfl, Nat.le_of_ble_eq_true rfl⟩ ⟨Nat.zero_le _, Nat.zero_le _⟩ rfl rfl (Nat.le_of_ble_eq_true rfl) (fun r1 I1 J1 Q1 hp => ?_)
  obtain ⟨hw, eI, eJ, eQ, hWF⟩ := hp
  have eI : I = I1 := Eq.symm eI
  subst eI
  have eJ : J = J1 := Eq.symm eJ
  subst eJ
  have eQ : Q = Q1 := Eq.symm eQ
  subst eQ
  try dsimp only at hw hWF
  refine g_istore (lv' := [(6, .int r1), (0, .ref (ad h0)), (1, .int x1), (2, .int x2), (3, .int x3), (4, .long x4)]) C dX10_item_6 (by decide) rfl ?_
  refine g_iload C dX10_item_8 0 rfl ?_
  refine g_if_eq (tgt := 16) C dX10_item_10 (by decide) (fun c2 => ?_) (fun c2 => ?_)
  · have hw := hw.1 c2
    refine g_aload_n C dX10_item_16 rfl 1 rfl ?_
    refine g_getQ C dX10_item_17 ft_302 z0 (hWF.q z0 10 rfl) ?_
    have zz3 := hWF.r z0 10 rfl
    refine g_iload_n C dX10_item_20 rfl 2 rfl ?_
    have hrzz4 := rft_eR hw.1
    refine g_aaldR C dX10_item_21 zz3 hw.1 (hWF.q zz3 _ hrzz4) ?_
    have zz4 := hWF.r zz3 _ hrzz4
    have hw := hw.2
    refine g_iload_n C dX10_item_22 rfl 4 rfl ?_
    refine g_iconst (v := (1 : Int32)) C dX10_item_23 (by decide) ?_
    refine g_callVi (As := [.int x3, .int (1 : Int32)]) C dX10_item_24 ft_306 zz4 ft_315 ft_316 (met_X6_covers l hWF zz4 hw) ⟨rfl, rfl, Nat.le_of_ble_eq_true rfl, Nat.le_of_ble_eq_true rfl⟩ ⟨Nat.zero_le _, Nat.zero_le _⟩ rfl rfl (Nat.le_of_ble_eq_true rfl) (fun r5 I5 J5 Q5 hp => ?_)
    obtain ⟨hw, eI, eJ, eQ, hWF⟩ := hp
    have eI : I = I5 := Eq.symm eI
    subst eI
    have eJ : J = J5 := Eq.symm eJ
    subst eJ
    have eQ : Q = Q5 := Eq.symm eQ
    subst eQ
    try dsimp only at hw hWF
    refine g_if_ne (tgt := 33) C dX10_item_27 (by decide) (fun c6 => ?_) (fun c6 => ?_)
    · have hw := hw.1 c6
      refine g_aload_n C dX10_item_33 rfl 1 rfl ?_
      refine g_getQ C dX10_item_34 ft_302 z0 (hWF.q z0 10 rfl) ?_
      have zz7 := hWF.r z0 10 rfl
      refine g_iload_n C dX10_item_37 rfl 2 rfl ?_
      have hrzz8 := rft_eR hw.1
      refine g_aaldR C dX10_item_38 zz7 hw.1 (hWF.q zz7 _ hrzz8) ?_
      have zz8 := hWF.r zz7 _ hrzz8
      have hw := hw.2
      refine g_iload_n C dX10_item_39 rfl 4 rfl ?_
      refine g_lload C dX10_item_40 5 rfl ?_
      refine g_callVv (As := [.int x3, .long x4]) C dX10_item_42 ft_306 zz8 ft_319 ft_320 (met_X6_set l hWF zz8 hw) ⟨rfl, rfl, Nat.le_of_ble_eq_true rfl, Nat.le_of_ble_eq_true rfl⟩ ⟨Nat.zero_le _, Nat.zero_le _⟩ rfl rfl (Nat.le_of_ble_eq_true rfl) (fun I9 J9 Q9 hp => ?_)
      obtain ⟨hw, eI, eQ, hWF⟩ := hp
      have eI : I = I9 := Eq.symm eI
      subst eI
      have eQ : Q = Q9 := Eq.symm eQ
      subst eQ
      try dsimp only at hw hWF
      refine g_iconst (v := (1 : Int32)) C dX10_item_45 (by decide) ?_
      exact g_iret C dX10_item_46 hr ⟨hw, rfl, rfl, hWF⟩
    · have hw := hw.2 c6
      refine g_bipush (v := (-13 : Int32)) C dX10_item_30 (by decide) ?_
      exact g_iret C dX10_item_32 hr ⟨hw, rfl, rfl, hWF⟩
  · have hw := hw.2 c2
    refine g_iload C dX10_item_13 0 rfl ?_
    exact g_iret C dX10_item_15 hr ⟨hw, rfl, rfl, hWF⟩
