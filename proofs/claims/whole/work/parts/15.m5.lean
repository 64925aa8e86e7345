def wp_X10_knows (I : KI) (Q : KQ) (h0 : Nat) (x1 : Int32) (x2 : Int32) (post : Int32 → Prop) : Prop := wp_X1_hasNode I (rq Q h0 0) x1 (fun r2 => ((r2 = 0 → post (-1 : Int32)) ∧ (¬ r2 = 0 → wp_X1_isSum I (rq Q h0 0) x2 (fun r5 => ((¬ r5 = 0 → (vp_in x1 6 ∧ wp_X7_rest I Q (rq Q (rq Q (rq Q h0 0) 1) x1.toNatClampNeg) x2 (fun r10 => ((¬ r10 = 0 → post (0 : Int32)) ∧ (r10 = 0 → post (1 : Int32)))))) ∧ (r5 = 0 → post (-1 : Int32)))))))
set_option maxHeartbeats 4000000 in
set_option maxRecDepth 100000 in
theorem met_X10_knows {Z : Nat → Prop} {A : Nat → Prop} {D : va_G} {D2 : Nat → ClassId} {ad : Nat → Nat} {N : Nat} {T : Nat → Nat × Nat} (l : Launch) {I : KI} {J : KJ} {Q : KQ} {h0 : Nat} {x1 : Int32} {x2 : Int32} {post : Int32 → Prop} (hWF : WF Z N T Q) (z0 : OKr Z N T h0 (10, 0)) (hw : wp_X10_knows I Q h0 x1 x2 post) : Met l yX10_knows (.code yX10_knows cX10_knows 3 (some .int) :: BIG) ({ frames := 2, cells := 0, slots := 0, locals := 44 }) (Pr D D2 A ad N T I J Q [.ref (ad h0), .int x1, .int x2]) (va_Qi (fun (r : Int32) (u : KS) => post r ∧ u.1 = I ∧ u.2.1 = J ∧ u.2.2 = Q ∧ WF Z N T u.2.2) (Bw D D2 ad N T) A) 0 0 A := by
  refine Met_GG (lv0 := [(0, .ref (ad h0)), (1, .int x1), (2, .int x2)]) (by decide +kernel) [.ref (ad h0), .int x1, .int x2] (Nat.le_of_ble_eq_true rfl) rfl ?_
  intro p e s m below meth c C hr
  have C : CX p s m [.ref (ad h0), .int x1, .int x2].toArray meth c cX10_knows 3 RX10 A D D2 := C
  unfold wp_X10_knows at hw
  refine g_aload_n C dX10_knows_0 rfl 0 rfl ?_
  refine g_getQ C dX10_knows_1 ft_247 z0 (hWF.q z0 0 rfl) ?_
  have zz1 := hWF.r z0 0 rfl
  refine g_iload_n C dX10_knows_4 rfl 1 rfl ?_
  refine g_callVi (As := [.int x1]) C dX10_knows_5 ft_46 zz1 ft_258 ft_259 (met_X1_hasNode l hWF zz1 hw) ⟨rfl, rfl, Nat.le_of_ble_eq_true rfl, Nat.le_of_ble_eq_true rfl⟩ ⟨Nat.zero_le _, Nat.zero_le _⟩ rfl rfl (Nat.le_of_ble_eq_true rfl) (fun r2 I2 J2 Q2 hp => ?_)
  obtain ⟨hw, eI, eJ, eQ, hWF⟩ := hp
  have eI : I = I2 := Eq.symm eI
  subst eI
  have eJ : J = J2 := Eq.symm eJ
  subst eJ
  have eQ : Q = Q2 := Eq.symm eQ
  subst eQ
  try dsimp only at hw hWF
  refine g_if_eq (tgt := 22) C dX10_knows_8 (by decide) (fun c3 => ?_) (fun c3 => ?_)
  · have hw := hw.1 c3
    refine g_iconst (v := (-1 : Int32)) C dX10_knows_22 (by decide) ?_
    exact g_iret C dX10_knows_23 hr ⟨hw, rfl, rfl, rfl, hWF⟩
  · have hw := hw.2 c3
    refine g_aload_n C dX10_knows_11 rfl 0 rfl ?_
    refine g_getQ C dX10_knows_12 ft_247 z0 (hWF.q z0 0 rfl) ?_
    have zz4 := hWF.r z0 0 rfl
    refine g_iload_n C dX10_knows_15 rfl 2 rfl ?_
    refine g_callVi (As := [.int x2]) C dX10_knows_16 ft_46 zz4 ft_256 ft_257 (met_X1_isSum l hWF zz4 hw) ⟨rfl, rfl, Nat.le_of_ble_eq_true rfl, Nat.le_of_ble_eq_true rfl⟩ ⟨Nat.zero_le _, Nat.zero_le _⟩ rfl rfl (Nat.le_of_ble_eq_true rfl) (fun r5 I5 J5 Q5 hp => ?_)
    obtain ⟨hw, eI, eJ, eQ, hWF⟩ := hp
    have eI : I = I5 := Eq.symm eI
    subst eI
    have eJ : J = J5 := Eq.symm eJ
    subst eJ
    have eQ : Q = Q5 := Eq.symm eQ
    subst eQ
    try dsimp only at hw hWF
    refine g_if_ne (tgt := 24) C dX10_knows_19 (by decide) (fun c6 => ?_) (fun c6 => ?_)
    · have hw := hw.1 c6
      refine g_aload_n C dX10_knows_24 rfl 0 rfl ?_
      refine g_getQ C dX10_knows_25 ft_247 z0 (hWF.q z0 0 rfl) ?_
      have zz7 := hWF.r z0 0 rfl
      refine g_getQ C dX10_knows_28 ft_249 zz7 (hWF.q zz7 1 rfl) ?_
      have zz8 := hWF.r zz7 1 rfl
      refine g_iload_n C dX10_knows_31 rfl 1 rfl ?_
      have hrzz9 := rft_eS hw.1
      refine g_aaldS C dX10_knows_32 zz8 hw.1 (hWF.q zz8 _ hrzz9) ?_
      have zz9 := hWF.r zz8 _ hrzz9
      have hw := hw.2
      refine g_iload_n C dX10_knows_33 rfl 2 rfl ?_
      refine g_callVi (As := [.int x2]) C dX10_knows_34 ft_22 zz9 ft_255 ft_21 (met_X7_rest l hWF zz9 hw) ⟨rfl, rfl, Nat.le_of_ble_eq_true rfl, Nat.le_of_ble_eq_true rfl⟩ ⟨Nat.zero_le _, Nat.zero_le _⟩ rfl rfl (Nat.le_of_ble_eq_true rfl) (fun r10 I10 J10 Q10 hp => ?_)
      obtain ⟨hw, eI, eJ, eQ, hWF⟩ := hp
      have eI : I = I10 := Eq.symm eI
      subst eI
      have eJ : J = J10 := Eq.symm eJ
      subst eJ
      have eQ : Q = Q10 := Eq.symm eQ
      subst eQ
      try dsimp only at hw hWF
      refine g_if_ne (tgt := 44) C dX10_knows_37 (by decide) (fun c11 => ?_) (fun c11 => ?_)
      · have hw := hw.1 c11
        refine g_iconst (v := (0 : Int32)) C dX10_knows_44 (by decide) ?_
        exact g_iret C dX10_knows_45 hr ⟨hw, rfl, rfl, rfl, hWF⟩
      · have hw := hw.2 c11
        refine g_iconst (v := (1 : Int32)) C dX10_knows_40 (by decide) ?_
        refine g_goto C dX10_knows_41 (tgt := 45) (by decide) ?_
        exact g_iret C dX10_knows_45 hr ⟨hw, rfl, rfl, rfl, hWF⟩
    · have hw := hw.2 c6
      refine g_iconst (v := (-1 : Int32)) C dX10_knows_22 (by decide) ?_
      exact g_iret C dX10_knows_23 hr ⟨hw, rfl, rfl, rfl, hWF⟩
def wp_X10_sends (I : KI) (Q : KQ) (h0 : Nat) (x1 : Int32) (post : Int32 → KI → Prop) : Prop := wp_X1_hasNode I (rq Q h0 0) x1 (fun r2 => ((¬ r2 = 0 → wp_X5_prepare I Q (rq Q h0 5) (rq Q h0 0) (I (rq Q h0 0) 5) (fun I7 => ((¬ (I7 (rq Q h0 0) 5) = (3 : Int32) → (vp_in x1 6 ∧ ((¬ (I7 (rq Q (rq Q h0 5) 1) x1.toNatClampNeg) = 0 → wp_X5_only I7 Q (rq Q h0 5) x1 (fun r14 => post r14 I7)) ∧ ((I7 (rq Q (rq Q h0 5) 1) x1.toNatClampNeg) = 0 → post (-4 : Int32) I7)))) ∧ ((I7 (rq Q h0 0) 5) = (3 : Int32) → (vp_in x1 6 ∧ post (I7 (rq Q (rq Q h0 5) 1) x1.toNatClampNeg) I7))))) ∧ (r2 = 0 → post (-1 : Int32) I)))
set_option maxHeartbeats 4000000 in
set_option maxRecDepth 100000 in
theorem met_X10_sends {Z : Nat → Prop} {A : Nat → Prop} {D : va_G} {D2 : Nat → ClassId} {ad : Nat → Nat} {N : Nat} {T : Nat → Nat × Nat} (l : Launch) {I : KI} {J : KJ} {Q : KQ} {h0 : Nat} {x1 : Int32} {post : Int32 → KI → Prop} (hWF : WF Z N T Q) (z0 : OKr Z N T h0 (10, 0)) (hw : wp_X10_sends I Q h0 x1 post) : Met l yX10_sends (.code yX10_sends cX10_sends 2 (some .int) :: BIG) ({ frames := 4, cells := 0, slots := 0, locals := 93 }) (Pr D D2 A ad N T I J Q [.ref (ad h0), .int x1]) (va_Qi (fun (r : Int32) (u : KS) => post r u.1 ∧ u.2.1 = J ∧ u.2.2 = Q ∧ WF Z N T u.2.2) (Bw D D2 ad N T) A) 0 0 A := by
  refine Met_GG (lv0 := [(0, .ref (ad h0)), (1, .int x1)]) (by decide +kernel) [.ref (ad h0), .int x1] (Nat.le_of_ble_eq_true rfl) rfl ?_
  intro p e s m below meth c C hr
  have C : CX p s m [.ref (ad h0), .int x1].toArray meth c cX10_sends 2 RX10 A D D2 := C
  unfold wp_X10_sends at hw
  refine g_aload_n C dX10_sends_0 rfl 0 rfl ?_
  refine g_getQ C dX10_sends_1 ft_247 z0 (hWF.q z0 0 rfl) ?_
  have zz1 := hWF.r z0 0 rfl
  refine g_iload_n C dX10_sends_4 rfl 1 rfl ?_
  refine g_callVi (As := [.int x1]) C dX10_sends_5 ft_46 zz1 ft_258 ft_259 (met_X1_hasNode l hWF zz1 hw) ⟨rfl, rfl, Nat.le_of_ble_eq_true rfl, Nat.le_of_ble_eq_true rfl⟩ ⟨Nat.zero_le _, Nat.zero_le _⟩ rfl rfl (Nat.le_of_ble_eq_true rfl) (fun r2 I2 J2 Q2 hp => ?_)
  obtain ⟨hw, eI, eJ, eQ, hWF⟩ := hp
  have eI : I = I2 := Eq.symm eI
  subst eI
  have eJ : J = J2 := Eq.symm eJ
  subst eJ
  have eQ : Q = Q2 := Eq.symm eQ
  subst eQ
  try dsimp only at hw hWF
  refine g_if_ne (tgt := 13) C dX10_sends_8 (by decide) (fun c3 => ?_) (fun c3 => ?_)
  · have hw := hw.1 c3
    refine g_aload_n C dX10_sends_13 rfl 0 rfl ?_
    refine g_getQ C dX10_sends_14 ft_264 z0 (hWF.q z0 5 rfl) ?_
    have zz4 := hWF.r z0 5 rfl
    refine g_aload_n C dX10_sends_17 rfl 0 rfl ?_
    refine g_getQ C dX10_sends_18 ft_247 z0 (hWF.q z0 0 rfl) ?_
    have zz5 := hWF.r z0 0 rfl
    refine g_aload_n C dX10_sends_21 rfl 0 rfl ?_
    refine g_getQ C dX10_sends_22 ft_247 z0 (hWF.q z0 0 rfl) ?_
    have zz6 := hWF.r z0 0 rfl
    refine g_getI C dX10_sends_25 ft_265 zz6 ?_
    refine g_callVv (As := [.ref (ad (rq Q h0 0)), .int (I (rq Q h0 0) 5)]) C dX10_sends_28 ft_37 zz4 ft_267 ft_166 (met_X5_prepare l hWF zz4 zz5 hw) ⟨rfl, rfl, Nat.le_of_ble_eq_true rfl, Nat.le_of_ble_eq_true rfl⟩ ⟨Nat.zero_le _, Nat.zero_le _⟩ rfl rfl (Nat.le_of_ble_eq_true rfl) (fun I7 J7 Q7 hp => ?_)
    obtain ⟨hw, eJ, eQ, hWF⟩ := hp
    have eJ : J = J7 := Eq.symm eJ
    subst eJ
    have eQ : Q = Q7 := Eq.symm eQ
    subst eQ
    try dsimp only at hw hWF
    refine g_aload_n C dX10_sends_31 rfl 0 rfl ?_
    refine g_getQ C dX10_sends_32 ft_247 z0 (hWF.q z0 0 rfl) ?_
    have zz8 := hWF.r z0 0 rfl
    refine g_getI C dX10_sends_35 ft_265 zz8 ?_
    refine g_iconst (v := (3 : Int32)) C dX10_sends_38 (by decide) ?_
    refine g_icmp_ne (tgt := 52) C dX10_sends_39 (by decide) (fun c9 => ?_) (fun c9 => ?_)
    · have hw := hw.1 c9
      refine g_aload_n C dX10_sends_52 rfl 0 rfl ?_
      refine g_getQ C dX10_sends_53 ft_264 z0 (hWF.q z0 5 rfl) ?_
      have zz10 := hWF.r z0 5 rfl
      refine g_getQ C dX10_sends_56 ft_270 zz10 (hWF.q zz10 1 rfl) ?_
      have zz11 := hWF.r zz10 1 rfl
      refine g_iload_n C dX10_sends_59 rfl 1 rfl ?_
      refine g_iald C dX10_sends_60 zz11 hw.1 ?_
      have hw := hw.2
      refine g_if_ne (tgt := 69) C dX10_sends_61 (by decide) (fun c12 => ?_) (fun c12 => ?_)
      · have hw := hw.1 c12
        refine g_aload_n C dX10_sends_69 rfl 0 rfl ?_
        refine g_getQ C dX10_sends_70 ft_264 z0 (hWF.q z0 5 rfl) ?_
        have zz13 := hWF.r z0 5 rfl
        refine g_iload_n C dX10_sends_73 rfl 1 rfl ?_
        refine g_callVi (As := [.int x1]) C dX10_sends_74 ft_37 zz13 ft_271 ft_164 (met_X5_only l hWF zz13 hw) ⟨rfl, rfl, Nat.le_of_ble_eq_true rfl, Nat.le_of_ble_eq_true rfl⟩ ⟨Nat.zero_le _, Nat.zero_le _⟩ rfl rfl (Nat.le_of_ble_eq_true rfl) (fun r14 I14 J14 Q14 hp => ?_)
        obtain ⟨hw, eI, eJ, eQ, hWF⟩ := hp
        have eI : I7 = I14 := Eq.symm eI
        subst eI
        have eJ : J = J14 := Eq.symm eJ
        subst eJ
        have eQ : Q = Q14 := Eq.symm eQ
        subst eQ
        try dsimp only at hw hWF
        exact g_iret C dX10_sends_77 hr ⟨hw, rfl, rfl, hWF⟩
      · have hw := hw.2 c12
        refine g_bipush (v := (-4 : Int32)) C dX10_sends_64 (by decide) ?_
        refine g_goto C dX10_sends_66 (tgt := 77) (by decide) ?_
        exact g_iret C dX10_sends_77 hr ⟨hw, rfl, rfl, hWF⟩
    · have hw := hw.2 c9
      refine g_aload_n C dX10_sends_42 rfl 0 rfl ?_
      refine g_getQ C dX10_sends_43 ft_264 z0 (hWF.q z0 5 rfl) ?_
      have zz15 := hWF.r z0 5 rfl
      refine g_getQ C dX10_sends_46 ft_270 zz15 (hWF.q zz15 1 rfl) ?_
      have zz16 := hWF.r zz15 1 rfl
      refine g_iload_n C dX10_sends_49 rfl 1 rfl ?_
      refine g_iald C dX10_sends_50 zz16 hw.1 ?_
      have hw := hw.2
      exact g_iret C dX10_sends_51 hr ⟨hw, rfl, rfl, hWF⟩
  · have hw := hw.2 c3
    refine g_iconst (v := (-1 : Int32)) C dX10_sends_11 (by decide) ?_
    exact g_iret C dX10_sends_12 hr ⟨hw, rfl, rfl, hWF⟩
def wp_X10_linked (I : KI) (Q : KQ) (h0 : Nat) (x1 : Int32) (x2 : Int32) (post : Int32 → Prop) : Prop := ((x1 < 0 → post (-1 : Int32)) ∧ (¬ x1 < 0 → wp_X1_hasNode I (rq Q h0 0) x2 (fun r3 => ((¬ r3 = 0 → wp_X1_neighbours I Q (rq Q h0 0) x1 x2 (fun r6 => post r6)) ∧ (r3 = 0 → post (-1 : Int32))))))
set_option maxHeartbeats 4000000 in
set_option maxRecDepth 100000 in
theorem met_X10_linked {Z : Nat → Prop} {A : Nat → Prop} {D : va_G} {D2 : Nat → ClassId} {ad : Nat → Nat} {N : Nat} {T : Nat → Nat × Nat} (l : Launch) {I : KI} {J : KJ} {Q : KQ} {h0 : Nat} {x1 : Int32} {x2 : Int32} {post : Int32 → Prop} (hWF : WF Z N T Q) (z0 : OKr Z N T h0 (10, 0)) (hw : wp_X10_linked I Q h0 x1 x2 post) : Met l yX10_linked (.code yX10_linked cX10_linked 3 (some .int) :: BIG) ({ frames := 3, cells := 0, slots := 0, locals := 66 }) (Pr D D2 A ad N T I J Q [.ref (ad h0), .int x1, .int x2]) (va_Qi (fun (r : Int32) (u : KS) => post r ∧ u.1 = I ∧ u.2.1 = J ∧ u.2.2 = Q ∧ WF Z N T u.2.2) (Bw D D2 ad N T) A) 0 0 A := by
  refine Met_GG (lv0 := [(0, .ref (ad h0)), (1, .int x1), (2, .int x2)]) (by decide +kernel) [.ref (ad h0), .int x1, .int x2] (Nat.le_of_ble_eq_true rfl) rfl ?_
  intro p e s m below meth c C hr
  have C : CX p s m [.ref (ad h0), .int x1, .int x2].toArray meth c cX10_linked 3 RX10 A D D2 := C
  unfold wp_X10_linked at hw
  refine g_iload_n C dX10_linked_0 rfl 1 rfl ?_
  refine g_if_lt (tgt := 15) C dX10_linked_1 (by decide) (fun c1 => ?_) (fun c1 => ?_)
  · have hw := hw.1 c1
    refine g_iconst (v := (-1 : Int32)) C dX10_linked_15 (by decide) ?_
    refine g_goto C dX10_linked_16 (tgt := 28) (by decide) ?_
    exact g_iret C dX10_linked_28 hr ⟨hw, rfl, rfl, rfl, hWF⟩
  · have hw := hw.2 c1
    refine g_aload_n C dX10_linked_4 rfl 0 rfl ?_
    refine g_getQ C dX10_linked_5 ft_247 z0 (hWF.q z0 0 rfl) ?_
    have zz2 := hWF.r z0 0 rfl
    refine g_iload_n C dX10_linked_8 rfl 2 rfl ?_
    refine g_callVi (As := [.int x2]) C dX10_linked_9 ft_46 zz2 ft_258 ft_259 (met_X1_hasNode l hWF zz2 hw) ⟨rfl, rfl, Nat.le_of_ble_eq_true rfl, Nat.le_of_ble_eq_true rfl⟩ ⟨Nat.zero_le _, Nat.zero_le _⟩ rfl rfl (Nat.le_of_ble_eq_true rfl) (fun r3 I3 J3 Q3 hp => ?_)
    obtain ⟨hw, eI, eJ, eQ, hWF⟩ := hp
    have eI : I = I3 := Eq.symm eI
    subst eI
    have eJ : J = J3 := Eq.symm eJ
    subst eJ
    have eQ : Q = Q3 := Eq.symm eQ
    subst eQ
    try dsimp only at hw hWF
    refine g_if_ne (tgt := 19) C dX10_linked_12 (by decide) (fun c4 => ?_) (fun c4 => ?_)
    · have hw := hw.1 c4
      refine g_aload_n C dX10_linked_19 rfl 0 rfl ?_
      refine g_getQ C dX10_linked_20 ft_247 z0 (hWF.q z0 0 rfl) ?_
      have zz5 := hWF.r z0 0 rfl
      refine g_iload_n C dX10_linked_23 rfl 1 rfl ?_
      refine g_iload_n C dX10_linked_24 rfl 2 rfl ?_
      refine g_callVi (As := [.int x1, .int x2]) C dX10_linked_25 ft_46 zz5 ft_263 ft_45 (met_X1_neighbours l hWF zz5 hw) ⟨rfl, rfl, Nat.le_of_ble_eq_true rfl, Nat.le_of_ble_eq_true rfl⟩ ⟨Nat.zero_le _, Nat.zero_le _⟩ rfl rfl (Nat.le_of_ble_eq_true rfl) (fun r6 I6 J6 Q6 hp => ?_)
      obtain ⟨hw, eI, eJ, eQ, hWF⟩ := hp
      have eI : I = I6 := Eq.symm eI
      subst eI
      have eJ : J = J6 := Eq.symm eJ
      subst eJ
      have eQ : Q = Q6 := Eq.symm eQ
      subst eQ
      try dsimp only at hw hWF
      exact g_iret C dX10_linked_28 hr ⟨hw, rfl, rfl, rfl, hWF⟩
    · have hw := hw.2 c4
      refine g_iconst (v := (-1 : Int32)) C dX10_linked_15 (by decide) ?_
      refine g_goto C dX10_linked_16 (tgt := 28) (by decide) ?_
      exact g_iret C dX10_linked_28 hr ⟨hw, rfl, rfl, rfl, hWF⟩
def wp_X10_count (I : KI) (Q : KQ) (h0 : Nat) (x1 : Int32) (post : Int32 → Prop) : Prop := ((x1 = 0 → post (I (rq Q h0 0) 3)) ∧ (x1 = 1 → post (I (rq Q h0 0) 4)) ∧ (x1 = 2 → post (I (rq Q h0 0) 5)) ∧ (x1 = 3 → post (I (rq Q h0 0) 6)) ∧ (x1 = 4 → post (I (rq Q h0 0) 7)) ∧ (x1 = 5 → post (I (rq Q (rq Q h0 0) 0) 1)) ∧ (x1 = 6 → wp_X1_ranks I Q (rq Q h0 0) (fun r16 => post r16)) ∧ (x1 = 7 → wp_X1_full I Q (rq Q h0 0) (fun r19 => post r19)) ∧ (x1 = 8 → post (I (rq Q h0 1) 1)) ∧ (¬ x1 = 0 → ¬ x1 = 1 → ¬ x1 = 2 → ¬ x1 = 3 → ¬ x1 = 4 → ¬ x1 = 5 → ¬ x1 = 6 → ¬ x1 = 7 → ¬ x1 = 8 → post (-1 : Int32)))
set_option maxHeartbeats 4000000 in
set_option maxRecDepth 100000 in
theorem met_X10_count {Z : Nat → Prop} {A : Nat → Prop} {D : va_G} {D2 : Nat → ClassId} {ad : Nat → Nat} {N : Nat} {T : Nat → Nat × Nat} (l : Launch) {I : KI} {J : KJ} {Q : KQ} {h0 : Nat} {x1 : Int32} {post : Int32 → Prop} (hWF : WF Z N T Q) (z0 : OKr Z N T h0 (10, 0)) (hw : wp_X10_count I Q h0 x1 post) : Met l yX10_count (.code yX10_count cX10_count 2 (some .int) :: BIG) ({ frames := 2, cells := 0, slots := 0, locals := 44 }) (Pr D D2 A ad N T I J Q [.ref (ad h0), .int x1]) (va_Qi (fun (r : Int32) (u : KS) => post r ∧ u.1 = I ∧ u.2.1 = J ∧ u.2.2 = Q ∧ WF Z N T u.2.2) (Bw D D2 ad N T) A) 0 0 A := by
  refine Met_GG (lv0 := [(0, .ref (ad h0)), (1, .int x1)]) (by decide +kernel) [.ref (ad h0), .int x1] (Nat.le_of_ble_eq_true rfl) rfl ?_
  intro p e s m below meth c C hr
  have C : CX p s m [.ref (ad h0), .int x1].toArray meth c cX10_count 2 RX10 A D D2 := C
  unfold wp_X10_count at hw
  refine g_iload_n C dX10_count_0 rfl 1 rfl ?_
  by_cases c1 : x1 = 0
  · have hw := hw.1 c1
    refine g_tableIn (tgt := 52) C dX10_count_1 (by rw [c1]; decide) (by rw [c1]; decide) (by rw [c1]; rfl) (by decide) ?_
    refine g_aload_n C dX10_count_52 rfl 0 rfl ?_
    refine g_getQ C dX10_count_53 ft_247 z0 (hWF.q z0 0 rfl) ?_
    have zz2 := hWF.r z0 0 rfl
    refine g_getI C dX10_count_56 ft_272 zz2 ?_
    exact g_iret C dX10_count_59 hr ⟨hw, rfl, rfl, rfl, hWF⟩
  by_cases c3 : x1 = 1
  · have hw := hw.2.1 c3
    refine g_tableIn (tgt := 60) C dX10_count_1 (by rw [c3]; decide) (by rw [c3]; decide) (by rw [c3]; rfl) (by decide) ?_
    refine g_aload_n C dX10_count_60 rfl 0 rfl ?_
    refine g_getQ C dX10_count_61 ft_247 z0 (hWF.q z0 0 rfl) ?_
    have zz4 := hWF.r z0 0 rfl
    refine g_getI C dX10_count_64 ft_273 zz4 ?_
    exact g_iret C dX10_count_67 hr ⟨hw, rfl, rfl, rfl, hWF⟩
  by_cases c5 : x1 = 2
  · have hw := hw.2.2.1 c5
    refine g_tableIn (tgt := 68) C dX10_count_1 (by rw [c5]; decide) (by rw [c5]; decide) (by rw [c5]; rfl) (by decide) ?_
    refine g_aload_n C dX10_count_68 rfl 0 rfl ?_
    refine g_getQ C dX10_count_69 ft_247 z0 (hWF.q z0 0 rfl) ?_
    have zz6 := hWF.r z0 0 rfl
    refine g_getI C dX10_count_72 ft_265 zz6 ?_
    exact g_iret C dX10_count_75 hr ⟨hw, rfl, rfl, rfl, hWF⟩
  by_cases c7 : x1 = 3
  · have hw := hw.2.2.2.1 c7
    refine g_tableIn (tgt := 76) C dX10_count_1 (by rw [c7]; decide) (by rw [c7]; decide) (by rw [c7]; rfl) (by decide) ?_
    refine g_aload_n C dX10_count_76 rfl 0 rfl ?_
    refine g_getQ C dX10_count_77 ft_247 z0 (hWF.q z0 0 rfl) ?_
    have zz8 := hWF.r z0 0 rfl
    refine g_getI C dX10_count_80 ft_274 zz8 ?_
    exact g_iret C dX10_count_83 hr ⟨hw, rfl, rfl, rfl, hWF⟩
  by_cases c9 : x1 = 4
  · have hw := hw.2.2.2.2.1 c9
    refine g_tableIn (tgt := 84) C dX10_count_1 (by rw [c9]; decide) (by rw [c9]; decide) (by rw [c9]; rfl) (by decide) ?_
    refine g_aload_n C dX10_count_84 rfl 0 rfl ?_
    refine g_getQ C dX10_count_85 ft_247 z0 (hWF.q z0 0 rfl) ?_
    have zz10 := hWF.r z0 0 rfl
    refine g_getI C dX10_count_88 ft_262 zz10 ?_
    exact g_iret C dX10_count_91 hr ⟨hw, rfl, rfl, rfl, hWF⟩
  by_cases c11 : x1 = 5
  · have hw := hw.2.2.2.2.2.1 c11
    refine g_tableIn (tgt := 92) C dX10_count_1 (by rw [c11]; decide) (by rw [c11]; decide) (by rw [c11]; rfl) (by decide) ?_
    refine g_aload_n C dX10_count_92 rfl 0 rfl ?_
    refine g_getQ C dX10_count_93 ft_247 z0 (hWF.q z0 0 rfl) ?_
    have zz12 := hWF.r z0 0 rfl
    refine g_getQ C dX10_count_96 ft_275 zz12 (hWF.q zz12 0 rfl) ?_
    have zz13 := hWF.r zz12 0 rfl
    refine g_getI C dX10_count_99 ft_276 zz13 ?_
    exact g_iret C dX10_count_102 hr ⟨hw, rfl, rfl, rfl, hWF⟩
  by_cases c14 : x1 = 6
  · have hw := hw.2.2.2.2.2.2.1 c14
    refine g_tableIn (tgt := 103) C dX10_count_1 (by rw [c14]; decide) (by rw [c14]; decide) (by rw [c14]; rfl) (by decide) ?_
    refine g_aload_n C dX10_count_103 rfl 0 rfl ?_
    refine g_getQ C dX10_count_104 ft_247 z0 (hWF.q z0 0 rfl) ?_
    have zz15 := hWF.r z0 0 rfl
    refine g_callVi (As := []) C dX10_count_107 ft_46 zz15 ft_277 ft_278 (met_X1_ranks l hWF zz15 hw) ⟨rfl, rfl, Nat.le_of_ble_eq_true rfl, Nat.le_of_ble_eq_true rfl⟩ ⟨Nat.zero_le _, Nat.zero_le _⟩ rfl rfl (Nat.le_of_ble_eq_true rfl) (fun r16 I16 J16 Q16 hp => ?_)
    obtain ⟨hw, eI, eJ, eQ, hWF⟩ := hp
    have eI : I = I16 := Eq.symm eI
    subst eI
    have eJ : J = J16 := Eq.symm eJ
    subst eJ
    have eQ : Q = Q16 := Eq.symm eQ
    subst eQ
    try dsimp only at hw hWF
    exact g_iret C dX10_count_110 hr ⟨hw, rfl, rfl, rfl, hWF⟩
  by_cases c17 : x1 = 7
  · have hw := hw.2.2.2.2.2.2.2.1 c17
    refine g_tableIn (tgt := 111) C dX10_count_1 (by rw [c17]; decide) (by rw [c17]; decide) (by rw [c17]; rfl) (by decide) ?_
    refine g_aload_n C dX10_count_111 rfl 0 rfl ?_
    refine g_getQ C dX10_count_112 ft_247 z0 (hWF.q z0 0 rfl) ?_
    have zz18 := hWF.r z0 0 rfl
    refine g_callVi (As := []) C dX10_count_115 ft_46 zz18 ft_279 ft_92 (met_X1_full l hWF zz18 hw) ⟨rfl, rfl, Nat.le_of_ble_eq_true rfl, Nat.le_of_ble_eq_true rfl⟩ ⟨Nat.zero_le _, Nat.zero_le _⟩ rfl rfl (Nat.le_of_ble_eq_true rfl) (fun r19 I19 J19 Q19 hp => ?_)
    obtain ⟨hw, eI, eJ, eQ, hWF⟩ := hp
    have eI : I = I19 := Eq.symm eI
    subst eI
    have eJ : J = J19 := Eq.symm eJ
    subst eJ
    have eQ : Q = Q19 := Eq.symm eQ
    subst eQ
    try dsimp only at hw hWF
    exact g_iret C dX10_count_118 hr ⟨hw, rfl, rfl, rfl, hWF⟩
  by_cases c20 : x1 = 8
  · have hw := hw.2.2.2.2.2.2.2.2.1 c20
    refine g_tableIn (tgt := 119) C dX10_count_1 (by rw [c20]; decide) (by rw [c20]; decide) (by rw [c20]; rfl) (by decide) ?_
    refine g_aload_n C dX10_count_119 rfl 0 rfl ?_
    refine g_getQ C dX10_count_120 ft_250 z0 (hWF.q z0 1 rfl) ?_
    have zz21 := hWF.r z0 1 rfl
    refine g_getI C dX10_count_123 ft_280 zz21 ?_
    exact g_iret C dX10_count_126 hr ⟨hw, rfl, rfl, rfl, hWF⟩
  have hw := hw.2.2.2.2.2.2.2.2.2 c1 c3 c5 c7 c9 c11 c14 c17 c20
  refine g_tableOut (tgt := 127) C dX10_count_1 (sw_out (fun v h1 h2 => by rcases (show v = 0 ∨ v = 1 ∨ v = 2 ∨ v = 3 ∨ v = 4 ∨ v = 5 ∨ v = 6 ∨ v = 7 ∨ v = 8 by omega) with rfl | rfl | rfl | rfl | rfl | rfl | rfl | rfl | rfl <;> first | exact c1 | exact c3 | exact c5 | exact c7 | exact c9 | exact c11 | exact c14 | exact c17 | exact c20)) (by decide) ?_
  refine g_iconst (v := (-1 : Int32)) C dX10_count_127 (by decide) ?_
  exact g_iret C dX10_count_128 hr ⟨hw, rfl, rfl, rfl, hWF⟩
def wp_X10_go (I : KI) (Q : KQ) (h0 : Nat) (x1 : Int32) (post : Int32 → KI → KQ → Prop) : Prop := ((x1 < (1 : Int32) → post (-1 : Int32) I Q) ∧ (¬ x1 < (1 : Int32) → ((x1 ≤ (20 : Int32) → wp_X1_allFull I Q (rq Q h0 0) (fun r4 => ((r4 = 0 → wp_X3_keep I Q (rq Q h0 1) (rq Q h0 0) (fun I8 Q8 => wp_X5_passUntilFull I8 Q8 (rq Q8 h0 5) (rq Q8 h0 0) x1 (fun r11 I11 => post r11 I11 Q8))) ∧ (¬ r4 = 0 → post (-2 : Int32) I Q)))) ∧ (¬ x1 ≤ (20 : Int32) → post (-1 : Int32) I Q))))
set_option maxHeartbeats 4000000 in
set_option maxRecDepth 100000 in
theorem met_X10_go {Z : Nat → Prop} {A : Nat → Prop} {D : va_G} {D2 : Nat → ClassId} {ad : Nat → Nat} {N : Nat} {T : Nat → Nat × Nat} (l : Launch) {I : KI} {J : KJ} {Q : KQ} {h0 : Nat} {x1 : Int32} {post : Int32 → KI → KQ → Prop} (hWF : WF Z N T Q) (z0 : OKr Z N T h0 (10, 0)) (hw : wp_X10_go I Q h0 x1 post) : Met l yX10_go (.code yX10_go cX10_go 2 (some .int) :: BIG) ({ frames := 6, cells := 0, slots := 0, locals := 142 }) (Pr D D2 A ad N T I J Q [.ref (ad h0), .int x1]) (va_Qi (fun (r : Int32) (u : KS) => post r u.1 u.2.2 ∧ u.2.1 = J ∧ WF Z N T u.2.2) (Bw D D2 ad N T) A) 0 0 A := by
  refine Met_GG (lv0 := [(0, .ref (ad h0)), (1, .int x1)]) (by decide +kernel) [.ref (ad h0), .int x1] (Nat.le_of_ble_eq_true rfl) rfl ?_
  intro p e s m below meth c C hr
  have C : CX p s m [.ref (ad h0), .int x1].toArray meth c cX10_go 2 RX10 A D D2 := C
  unfold wp_X10_go at hw
  refine g_iload_n C dX10_go_0 rfl 1 rfl ?_
  refine g_iconst (v := (1 : Int32)) C dX10_go_1 (by decide) ?_
  refine g_icmp_lt (tgt := 11) C dX10_go_2 (by decide) (fun c1 => ?_) (fun c1 => ?_)
  · have hw := hw.1 c1
    refine g_iconst (v := (-1 : Int32)) C dX10_go_11 (by decide) ?_
    exact g_iret C dX10_go_12 hr ⟨hw, rfl, hWF⟩
  · have hw := hw.2 c1
    refine g_iload_n C dX10_go_5 rfl 1 rfl ?_
    refine g_bipush (v := (20 : Int32)) C dX10_go_6 (by decide) ?_
    refine g_icmp_le (tgt := 13) C dX10_go_8 (by decide) (fun c2 => ?_) (fun c2 => ?_)
    · have hw := hw.1 c2
      refine g_aload_n C dX10_go_13 rfl 0 rfl ?_
      refine g_getQ C dX10_go_14 ft_247 z0 (hWF.q z0 0 rfl) ?_
      have zz3 := hWF.r z0 0 rfl
      refine g_callVi (As := []) C dX10_go_17 ft_46 zz3 ft_283 ft_170 (met_X1_allFull l hWF zz3 hw) ⟨rfl, rfl, Nat.le_of_ble_eq_true rfl, Nat.le_of_ble_eq_true rfl⟩ ⟨Nat.zero_le _, Nat.zero_le _⟩ rfl rfl (Nat.le_of_ble_eq_true rfl) (fun r4 I4 J4 Q4 hp => ?_)
      obtain ⟨hw, eI, eJ, eQ, hWF⟩ := hp
      have eI : I = I4 := Eq.symm eI
      subst eI
      have eJ : J = J4 := Eq.symm eJ
      subst eJ
      have eQ : Q = Q4 := Eq.symm eQ
      subst eQ
      try dsimp only at hw hWF
      refine g_if_eq (tgt := 26) C dX10_go_20 (by decide) (fun c5 => ?_) (fun c5 => ?_)
      · have hw := hw.1 c5
        refine g_aload_n C dX10_go_26 rfl 0 rfl ?_
        refine g_getQ C dX10_go_27 ft_250 z0 (hWF.q z0 1 rfl) ?_
        have zz6 := hWF.r z0 1 rfl
        refine g_aload_n C dX10_go_30 rfl 0 rfl ?_
        refine g_getQ C dX10_go_31 ft_247 z0 (hWF.q z0 0 rfl) ?_
        have zz7 := hWF.r z0 0 rfl
        refine g_callVv (As := [.ref (ad (rq Q h0 0))]) C dX10_go_34 ft_133 zz6 ft_253 ft_254 (met_X3_keep l hWF zz6 zz7 hw) ⟨rfl, rfl, Nat.le_of_ble_eq_true rfl, Nat.le_of_ble_eq_true rfl⟩ ⟨Nat.zero_le _, Nat.zero_le _⟩ rfl rfl (Nat.le_of_ble_eq_true rfl) (fun I8 J8 Q8 hp => ?_)
        obtain ⟨hw, eJ, hWF⟩ := hp
        have eJ : J = J8 := Eq.symm eJ
        subst eJ
        try dsimp only at hw hWF
        refine g_aload_n C dX10_go_37 rfl 0 rfl ?_
        refine g_getQ C dX10_go_38 ft_264 z0 (hWF.q z0 5 rfl) ?_
        have zz9 := hWF.r z0 5 rfl
        refine g_aload_n C dX10_go_41 rfl 0 rfl ?_
        refine g_getQ C dX10_go_42 ft_247 z0 (hWF.q z0 0 rfl) ?_
        have zz10 := hWF.r z0 0 rfl
        refine g_iload_n C dX10_go_45 rfl 1 rfl ?_
        refine g_callVi (As := [.ref (ad (rq Q8 h0 0)), .int x1]) C dX10_go_46 ft_37 zz9 ft_281 ft_282 (met_X5_passUntilFull l hWF zz9 zz10 hw) ⟨rfl, rfl, Nat.le_of_ble_eq_true rfl, Nat.le_of_ble_eq_true rfl⟩ ⟨Nat.zero_le _, Nat.zero_le _⟩ rfl rfl (Nat.le_of_ble_eq_true rfl) (fun r11 I11 J11 Q11 hp => ?_)
        obtain ⟨hw, eJ, eQ, hWF⟩ := hp
        have eJ : J = J11 := Eq.symm eJ
        subst eJ
        have eQ : Q8 = Q11 := Eq.symm eQ
        subst eQ
        try dsimp only at hw hWF
        exact g_iret C dX10_go_49 hr ⟨hw, rfl, hWF⟩
      · have hw := hw.2 c5
        refine g_bipush (v := (-2 : Int32)) C dX10_go_23 (by decide) ?_
        exact g_iret C dX10_go_25 hr ⟨hw, rfl, hWF⟩
    · have hw := hw.2 c2
      refine g_iconst (v := (-1 : Int32)) C dX10_go_11 (by decide) ?_
      exact g_iret C dX10_go_12 hr ⟨hw, rfl, hWF⟩
def wp_X10_gain (I : KI) (Q : KQ) (h0 : Nat) (x1 : Int32) (post : Int32 → KI → Prop) : Prop := ((x1 < 0 → post (-1 : Int32) I) ∧ (¬ x1 < 0 → ((x1 ≤ (2 : Int32) → wp_X5_prepare I Q (rq Q h0 5) (rq Q h0 0) (I (rq Q h0 0) 5) (fun I6 => ((¬ x1 = (1 : Int32) → ((¬ x1 = 0 → wp_X0_best I6 Q (rq Q h0 6) (rq Q h0 0) (rq Q h0 5) (fun r12 I12 => post r12 I12)) ∧ (x1 = 0 → wp_X0_present I6 Q (rq Q h0 6) (rq Q h0 0) (rq Q h0 5) (fun r16 I16 => post r16 I16)))) ∧ (x1 = (1 : Int32) → wp_X0_findGrowths I6 Q (rq Q h0 6) (rq Q h0 0) (rq Q h0 5) (fun I20 => wp_X0_worst I20 Q (rq Q h0 6) (I20 (rq Q h0 0) 3) (fun r23 I23 => post r23 I23)))))) ∧ (¬ x1 ≤ (2 : Int32) → post (-1 : Int32) I))))
set_option maxHeartbeats 4000000 in
set_option maxRecDepth 100000 in
theorem met_X10_gain {Z : Nat → Prop} {A : Nat → Prop} {D : va_G} {D2 : Nat → ClassId} {ad : Nat → Nat} {N : Nat} {T : Nat → Nat × Nat} (l : Launch) {I : KI} {J : KJ} {Q : KQ} {h0 : Nat} {x1 : Int32} {post : Int32 → KI → Prop} (hWF : WF Z N T Q) (z0 : OKr Z N T h0 (10, 0)) (hw : wp_X10_gain I Q h0 x1 post) : Met l yX10_gain (.code yX10_gain cX10_gain 2 (some .int) :: BIG) ({ frames := 6, cells := 0, slots := 0, locals := 143 }) (Pr D D2 A ad N T I J Q [.ref (ad h0), .int x1]) (va_Qi (fun (r : Int32) (u : KS) => post r u.1 ∧ u.2.1 = J ∧ u.2.2 = Q ∧ WF Z N T u.2.2) (Bw D D2 ad N T) A) 0 0 A := by
  refine Met_GG (lv0 := [(0, .ref (ad h0)), (1, .int x1)]) (by decide +kernel) [.ref (ad h0), .int x1] (Nat.le_of_ble_eq_true rfl) rfl ?_
  intro p e s m below meth c C hr
  have C : CX p s m [.ref (ad h0), .int x1].toArray meth c cX10_gain 2 RX10 A D D2 := C
  unfold wp_X10_gain at hw
  refine g_iload_n C dX10_gain_0 rfl 1 rfl ?_
  refine g_if_lt (tgt := 9) C dX10_gain_1 (by decide) (fun c1 => ?_) (fun c1 => ?_)
  · have hw := hw.1 c1
    refine g_iconst (v := (-1 : Int32)) C dX10_gain_9 (by decide) ?_
    exact g_iret C dX10_gain_10 hr ⟨hw, rfl, rfl, hWF⟩
  · have hw := hw.2 c1
    refine g_iload_n C dX10_gain_4 rfl 1 rfl ?_
    refine g_iconst (v := (2 : Int32)) C dX10_gain_5 (by decide) ?_
    refine g_icmp_le (tgt := 11) C dX10_gain_6 (by decide) (fun c2 => ?_) (fun c2 => ?_)
    · have hw := hw.1 c2
      refine g_aload_n C dX10_gain_11 rfl 0 rfl ?_
      refine g_getQ C dX10_gain_12 ft_264 z0 (hWF.q z0 5 rfl) ?_
      have zz3 := hWF.r z0 5 rfl
      refine g_aload_n C dX10_gain_15 rfl 0 rfl ?_
      refine g_getQ C dX10_gain_16 ft_247 z0 (hWF.q z0 0 rfl) ?_
      have zz4 := hWF.r z0 0 rfl
      refine g_aload_n C dX10_gain_19 rfl 0 rfl ?_
      refine g_getQ C dX10_gain_20 ft_247 z0 (hWF.q z0 0 rfl) ?_
      have zz5 := hWF.r z0 0 rfl
      refine g_getI C dX10_gain_23 ft_265 zz5 ?_
      refine g_callVv (As := [.ref (ad (rq Q h0 0)), .int (I (rq Q h0 0) 5)]) C dX10_gain_26 ft_37 zz3 ft_267 ft_166 (met_X5_prepare l hWF zz3 zz4 hw) ⟨rfl, rfl, Nat.le_of_ble_eq_true rfl, Nat.le_of_ble_eq_true rfl⟩ ⟨Nat.zero_le _, Nat.zero_le _⟩ rfl rfl (Nat.le_of_ble_eq_true rfl) (fun I6 J6 Q6 hp => ?_)
      obtain ⟨hw, eJ, eQ, hWF⟩ := hp
      have eJ : J = J6 := Eq.symm eJ
      subst eJ
      have eQ : Q = Q6 := Eq.symm eQ
      subst eQ
      try dsimp only at hw hWF
      refine g_iload_n C dX10_gain_29 rfl 1 rfl ?_
      refine g_iconst (v := (1 : Int32)) C dX10_gain_30 (by decide) ?_
      refine g_icmp_ne (tgt := 64) C dX10_gain_31 (by decide) (fun c7 => ?_) (fun c7 => ?_)
      · have hw := hw.1 c7
        refine g_iload_n C dX10_gain_64 rfl 1 rfl ?_
        refine g_if_ne (tgt := 86) C dX10_gain_65 (by decide) (fun c8 => ?_) (fun c8 => ?_)
        · have hw := hw.1 c8
          refine g_aload_n C dX10_gain_86 rfl 0 rfl ?_
          refine g_getQ C dX10_gain_87 ft_284 z0 (hWF.q z0 6 rfl) ?_
          have zz9 := hWF.r z0 6 rfl
          refine g_aload_n C dX10_gain_90 rfl 0 rfl ?_
          refine g_getQ C dX10_gain_91 ft_247 z0 (hWF.q z0 0 rfl) ?_
          have zz10 := hWF.r z0 0 rfl
          refine g_aload_n C dX10_gain_94 rfl 0 rfl ?_
          refine g_getQ C dX10_gain_95 ft_264 z0 (hWF.q z0 5 rfl) ?_
          have zz11 := hWF.r z0 5 rfl
          refine g_callVi (As := [.ref (ad (rq Q h0 0)), .ref (ad (rq Q h0 5))]) C dX10_gain_98 ft_53 zz9 ft_285 ft_286 (met_X0_best l hWF zz9 zz10 zz11 hw) ⟨rfl, rfl, Nat.le_of_ble_eq_true rfl, Nat.le_of_ble_eq_true rfl⟩ ⟨Nat.zero_le _, Nat.zero_le _⟩ rfl rfl (Nat.le_of_ble_eq_true rfl) (fun r12 I12 J12 Q12 hp => ?_)
          obtain ⟨hw, eJ, eQ, hWF⟩ := hp
          have eJ : J = J12 := Eq.symm eJ
          subst eJ
          have eQ : Q = Q12 := Eq.symm eQ
          subst eQ
          try dsimp only at hw hWF
          exact g_iret C dX10_gain_101 hr ⟨hw, rfl, rfl, hWF⟩
        · have hw := hw.2 c8
          refine g_aload_n C dX10_gain_68 rfl 0 rfl ?_
          refine g_getQ C dX10_gain_69 ft_284 z0 (hWF.q z0 6 rfl) ?_
          have zz13 := hWF.r z0 6 rfl
          refine g_aload_n C dX10_gain_72 rfl 0 rfl ?_
          refine g_getQ C dX10_gain_73 ft_247 z0 (hWF.q z0 0 rfl) ?_
          have zz14 := hWF.r z0 0 rfl
          refine g_aload_n C dX10_gain_76 rfl 0 rfl ?_
          refine g_getQ C dX10_gain_77 ft_264 z0 (hWF.q z0 5 rfl) ?_
          have zz15 := hWF.r z0 5 rfl
          refine g_callVi (As := [.ref (ad (rq Q h0 0)), .ref (ad (rq Q h0 5))]) C dX10_gain_80 ft_53 zz13 ft_287 ft_288 (met_X0_present l hWF zz13 zz14 zz15 hw) ⟨rfl, rfl, Nat.le_of_ble_eq_true rfl, Nat.le_of_ble_eq_true rfl⟩ ⟨Nat.zero_le _, Nat.zero_le _⟩ rfl rfl (Nat.le_of_ble_eq_true rfl) (fun r16 I16 J16 Q16 hp => ?_)
          obtain ⟨hw, eJ, eQ, hWF⟩ := hp
          have eJ : J = J16 := Eq.symm eJ
          subst eJ
          have eQ : Q = Q16 := Eq.symm eQ
          subst eQ
          try dsimp only at hw hWF
          refine g_goto C dX10_gain_83 (tgt := 101) (by decide) ?_
          exact g_iret C dX10_gain_101 hr ⟨hw, rfl, rfl, hWF⟩
      · have hw := hw.2 c7
        refine g_aload_n C dX10_gain_34 rfl 0 rfl ?_
        refine g_getQ C dX10_gain_35 ft_284 z0 (hWF.q z0 6 rfl) ?_
        have zz17 := hWF.r z0 6 rfl
        refine g_aload_n C dX10_gain_38 rfl 0 rfl ?_
        refine g_getQ C dX10_gain_39 ft_247 z0 (hWF.q z0 0 rfl) ?_
        have zz18 := hWF.r z0 0 rfl
        refine g_aload_n C dX10_gain_42 rfl 0 rfl ?_
        refine g_getQ C dX10_gain_43 ft_264 z0 (hWF.q z0 5 rfl) ?_
        have zz19 := hWF.r z0 5 rfl
        refine g_callVv (As := [.ref (ad (rq Q h0 0)), .ref (ad (rq Q h0 5))]) C dX10_gain_46 ft_53 zz17 ft_291 ft_292 (met_X0_findGrowths l hWF zz17 zz18 zz19 hw) ⟨rfl, rfl, Nat.le_of_ble_eq_true rfl, Nat.le_of_ble_eq_true rfl⟩ ⟨Nat.zero_le _, Nat.zero_le _⟩ rfl rfl (Nat.le_of_ble_eq_true rfl) (fun I20 J20 Q20 hp => ?_)
        obtain ⟨hw, eJ, eQ, hWF⟩ := hp
        have eJ : J = J20 := Eq.symm eJ
        subst eJ
        have eQ : Q = Q20 := Eq.symm eQ
        subst eQ
        try dsimp only at hw hWF
        refine g_aload_n C dX10_gain_49 rfl 0 rfl ?_
        refine g_getQ C dX10_gain_50 ft_284 z0 (hWF.q z0 6 rfl) ?_
        have zz21 := hWF.r z0 6 rfl
        refine g_aload_n C dX10_gain_53 rfl 0 rfl ?_
        refine g_getQ C dX10_gain_54 ft_247 z0 (hWF.q z0 0 rfl) ?_
        have zz22 := hWF.r z0 0 rfl
        refine g_getI C dX10_gain_57 ft_272 zz22 ?_
        refine g_callVi (As := [.int (I20 (rq Q h0 0) 3)]) C dX10_gain_60 ft_53 zz21 ft_289 ft_290 (met_X0_worst l hWF zz21 hw) ⟨rfl, rfl, Nat.le_of_ble_eq_true rfl, Nat.le_of_ble_eq_true rfl⟩ ⟨Nat.zero_le _, Nat.zero_le _⟩ rfl rfl (Nat.le_of_ble_eq_true rfl) (fun r23 I23 J23 Q23 hp => ?_)
        obtain ⟨hw, eJ, eQ, hWF⟩ := hp
        have eJ : J = J23 := Eq.symm eJ
        subst eJ
        have eQ : Q = Q23 := Eq.symm eQ
        subst eQ
        try dsimp only at hw hWF
        exact g_iret C dX10_gain_63 hr ⟨hw, rfl, rfl, hWF⟩
    · have hw := hw.2 c2
      refine g_iconst (v := (-1 : Int32)) C dX10_gain_9 (by decide) ?_
      exact g_iret C dX10_gain_10 hr ⟨hw, rfl, rfl, hWF⟩
def wp_X10_foreseen (I : KI) (Q : KQ) (h0 : Nat) (post : Int32 → KI → Prop) : Prop := wp_X1_take I Q (rq Q h0 4) (rq Q h0 0) (fun I3 => wp_X5_passUntilFull I3 Q (rq Q h0 5) (rq Q h0 4) (60 : Int32) (fun r6 I6 => wp_X1_allFull I6 Q (rq Q h0 4) (fun r8 => ((r8 = 0 → post (-4 : Int32) I6) ∧ (¬ r8 = 0 → post r6 I6)))))
set_option maxHeartbeats 4000000 in
set_option maxRecDepth 100000 in
theorem met_X10_foreseen {Z : Nat → Prop} {A : Nat → Prop} {D : va_G} {D2 : Nat → ClassId} {ad : Nat → Nat} {N : Nat} {T : Nat → Nat × Nat} (l : Launch) {I : KI} {J : KJ} {Q : KQ} {h0 : Nat} {post : Int32 → KI → Prop} (hWF : WF Z N T Q) (z0 : OKr Z N T h0 (10, 0)) (hw : wp_X10_foreseen I Q h0 post) : Met l yX10_foreseen (.code yX10_foreseen cX10_foreseen 2 (some .int) :: BIG) ({ frames := 6, cells := 0, slots := 0, locals := 142 }) (Pr D D2 A ad N T I J Q [.ref (ad h0)]) (va_Qi (fun (r : Int32) (u : KS) => post r u.1 ∧ u.2.1 = J ∧ u.2.2 = Q ∧ WF Z N T u.2.2) (Bw D D2 ad N T) A) 0 0 A := by
  refine Met_GG (lv0 := [(0, .ref (ad h0))]) (by decide +kernel) [.ref (ad h0)] (Nat.le_of_ble_eq_true rfl) rfl ?_
  intro p e s m below meth c C hr
  have C : CX p s m [.ref (ad h0)].toArray meth c cX10_foreseen 2 RX10 A D D2 := C
  unfold wp_X10_foreseen at hw
  refine g_aload_n C dX10_foreseen_0 rfl 0 rfl ?_
  refine g_getQ C dX10_foreseen_1 ft_293 z0 (hWF.q z0 4 rfl) ?_
  have zz1 := hWF.r z0 4 rfl
  refine g_aload_n C dX10_foreseen_4 rfl 0 rfl ?_
  refine g_getQ C dX10_foreseen_5 ft_247 z0 (hWF.q z0 0 rfl) ?_
  have zz2 := hWF.r z0 0 rfl
  refine g_callVv (As := [.ref (ad (rq Q h0 0))]) C dX10_foreseen_8 ft_46 zz1 ft_294 ft_130 (met_X1_take l hWF zz1 zz2 hw) ⟨rfl, rfl, Nat.le_of_ble_eq_true rfl, Nat.le_of_ble_eq_true rfl⟩ ⟨Nat.zero_le _, Nat.zero_le _⟩ rfl rfl (Nat.le_of_ble_eq_true rfl) (fun I3 J3 Q3 hp => ?_)
  obtain ⟨hw, eJ, eQ, hWF⟩ := hp
  have eJ : J = J3 := Eq.symm eJ
  subst eJ
  have eQ : Q = Q3 := Eq.symm eQ
  subst eQ
  try dsimp only at hw hWF
  refine g_aload_n C dX10_foreseen_11 rfl 0 rfl ?_
  refine g_getQ C dX10_foreseen_12 ft_264 z0 (hWF.q z0 5 rfl) ?_
  have zz4 := hWF.r z0 5 rfl
  refine g_aload_n C dX10_foreseen_15 rfl 0 rfl ?_
  refine g_getQ C dX10_foreseen_16 ft_293 z0 (hWF.q z0 4 rfl) ?_
  have zz5 := hWF.r z0 4 rfl
  refine g_bipush (v := (60 : Int32)) C dX10_foreseen_19 (by decide) ?_
  refine g_callVi (As := [.ref (ad (rq Q h0 4)), .int (60 : Int32)]) C dX10_foreseen_21 ft_37 zz4 ft_281 ft_282 (met_X5_passUntilFull l hWF zz4 zz5 hw) ⟨rfl, rfl, Nat.le_of_ble_eq_true rfl, Nat.le_of_ble_eq_true rfl⟩ ⟨Nat.zero_le _, Nat.zero_le _⟩ rfl rfl (Nat.le_of_ble_eq_true rfl) (fun r6 I6 J6 Q6 hp => ?_)
  obtain ⟨hw, eJ, eQ, hWF⟩ := hp
  have eJ : J = J6 := Eq.symm eJ
  subst eJ
  have eQ : Q = Q6 := Eq.symm eQ
  subst eQ
  try dsimp only at hw hWF
  refine g_istore_n (lv' := [(1, .int r6), (0, .ref (ad h0))]) C dX10_foreseen_24 rfl (by decide) rfl ?_
  refine g_aload_n C dX10_foreseen_25 rfl 1 rfl ?_
  refine g_getQ C dX10_foreseen_26 ft_293 z0 (hWF.q z0 4 rfl) ?_
  have zz7 := hWF.r z0 4 rfl
  refine g_callVi (As := []) C dX10_foreseen_29 ft_46 zz7 ft_283 ft_170 (met_X1_allFull l hWF zz7 hw) ⟨rfl, rfl, Nat.le_of_ble_eq_true rfl, Nat.le_of_ble_eq_true rfl⟩ ⟨Nat.zero_le _, Nat.zero_le _⟩ rfl rfl (Nat.le_of_ble_eq_true rfl) (fun r8 I8 J8 Q8 hp => ?_)
  obtain ⟨hw, eI, eJ, eQ, hWF⟩ := hp
  have eI : I6 = I8 := Eq.symm eI
  subst eI
  have eJ : J = J8 := Eq.symm eJ
  subst eJ
  have eQ : Q = Q8 := Eq.symm eQ
  subst eQ
  try dsimp only at hw hWF
  refine g_if_eq (tgt := 39) C dX10_foreseen_32 (by decide) (fun c9 => ?_) (fun c9 => ?_)
  · have hw := hw.1 c9
    refine g_bipush (v := (-4 : Int32)) C dX10_foreseen_39 (by decide) ?_
    exact g_iret C dX10_foreseen_41 hr ⟨hw, rfl, rfl, hWF⟩
  · have hw := hw.2 c9
    refine g_iload_n C dX10_foreseen_35 rfl 0 rfl ?_
    refine g_goto C dX10_foreseen_36 (tgt := 41) (by decide) ?_
    exact g_iret C dX10_foreseen_41 hr ⟨hw, rfl, rfl, hWF⟩
def wp_X10_views (I : KI) (Q : KQ) (h0 : Nat) (x1 : Int32) (post : Int32 → KI → Prop) : Prop := ((x1 < 0 → post (-1 : Int32) I) ∧ (¬ x1 < 0 → ((x1 ≤ (9 : Int32) → wp_X9_behind I Q (rq Q h0 7) (rq Q h0 0) x1 (fun r5 I5 => post r5 I5)) ∧ (¬ x1 ≤ (9 : Int32) → post (-1 : Int32) I))))
set_option maxHeartbeats 4000000 in
set_option maxRecDepth 100000 in
theorem met_X10_views {Z : Nat → Prop} {A : Nat → Prop} {D : va_G} {D2 : Nat → ClassId} {ad : Nat → Nat} {N : Nat} {T : Nat → Nat × Nat} (l : Launch) {I : KI} {J : KJ} {Q : KQ} {h0 : Nat} {x1 : Int32} {post : Int32 → KI → Prop} (hWF : WF Z N T Q) (z0 : OKr Z N T h0 (10, 0)) (hw : wp_X10_views I Q h0 x1 post) : Met l yX10_views (.code yX10_views cX10_views 2 (some .int) :: BIG) ({ frames := 6, cells := 0, slots := 0, locals := 143 }) (Pr D D2 A ad N T I J Q [.ref (ad h0), .int x1]) (va_Qi (fun (r : Int32) (u : KS) => post r u.1 ∧ u.2.1 = J ∧ u.2.2 = Q ∧ WF Z N T u.2.2) (Bw D D2 ad N T) A) 0 0 A := by
  refine Met_GG (lv0 := [(0, .ref (ad h0)), (1, .int x1)]) (by decide +kernel) [.ref (ad h0), .int x1] (Nat.le_of_ble_eq_true rfl) rfl ?_
  intro p e s m below meth c C hr
  have C : CX p s m [.ref (ad h0), .int x1].toArray meth c cX10_views 2 RX10 A D D2 := C
  unfold wp_X10_views at hw
  refine g_iload_n C dX10_views_0 rfl 1 rfl ?_
  refine g_if_lt (tgt := 10) C dX10_views_1 (by decide) (fun c1 => ?_) (fun c1 => ?_)
  · have hw := hw.1 c1
    refine g_iconst (v := (-1 : Int32)) C dX10_views_10 (by decide) ?_
    refine g_goto C dX10_views_11 (tgt := 26) (by decide) ?_
    exact g_iret C dX10_views_26 hr ⟨hw, rfl, rfl, hWF⟩
  · have hw := hw.2 c1
    refine g_iload_n C dX10_views_4 rfl 1 rfl ?_
    refine g_bipush (v := (9 : Int32)) C dX10_views_5 (by decide) ?_
    refine g_icmp_le (tgt := 14) C dX10_views_7 (by decide) (fun c2 => ?_) (fun c2 => ?_)
    · have hw := hw.1 c2
      refine g_aload_n C dX10_views_14 rfl 0 rfl ?_
      refine g_getQ C dX10_views_15 ft_295 z0 (hWF.q z0 7 rfl) ?_
      have zz3 := hWF.r z0 7 rfl
      refine g_aload_n C dX10_views_18 rfl 0 rfl ?_
      refine g_getQ C dX10_views_19 ft_247 z0 (hWF.q z0 0 rfl) ?_
      have zz4 := hWF.r z0 0 rfl
      refine g_iload_n C dX10_views_22 rfl 1 rfl ?_
      refine g_callVi (As := [.ref (ad (rq Q h0 0)), .int x1]) C dX10_views_23 ft_236 zz3 ft_296 ft_297 (met_X9_behind l hWF zz3 zz4 hw) ⟨rfl, rfl, Nat.le_of_ble_eq_true rfl, Nat.le_of_ble_eq_true rfl⟩ ⟨Nat.zero_le _, Nat.zero_le _⟩ rfl rfl (Nat.le_of_ble_eq_true rfl) (fun r5 I5 J5 Q5 hp => ?_)
      obtain ⟨hw, eJ, eQ, hWF⟩ := hp
      have eJ : J = J5 := Eq.symm eJ
      subst eJ
      have eQ : Q = Q5 := Eq.symm eQ
      subst eQ
      try dsimp only at hw hWF
      exact g_iret C dX10_views_26 hr ⟨hw, rfl, rfl, hWF⟩
    · have hw := hw.2 c2
      refine g_iconst (v := (-1 : Int32)) C dX10_views_10 (by decide) ?_
      refine g_goto C dX10_views_11 (tgt := 26) (by decide) ?_
      exact g_iret C dX10_views_26 hr ⟨hw, rfl, rfl, hWF⟩
def wp_X10_view (I : KI) (Q : KQ) (h0 : Nat) (x1 : Int32) (x2 : Int32) (post : Int32 → KI → Prop) : Prop := ((x1 < 0 → post (-1 : Int32) I) ∧ (¬ x1 < 0 → (((9 : Int32) < x1 → post (-1 : Int32) I) ∧ (¬ (9 : Int32) < x1 → wp_X1_hasNode I (rq Q h0 0) x2 (fun r4 => ((¬ r4 = 0 → wp_X9_behind I Q (rq Q h0 7) (rq Q h0 0) x1 (fun r8 I8 => (vp_in x2 6 ∧ post (I8 (rq Q (rq Q h0 7) 0) x2.toNatClampNeg) I8))) ∧ (r4 = 0 → post (-1 : Int32) I)))))))
set_option maxHeartbeats 4000000 in
set_option maxRecDepth 100000 in
theorem met_X10_view {Z : Nat → Prop} {A : Nat → Prop} {D : va_G} {D2 : Nat → ClassId} {ad : Nat → Nat} {N : Nat} {T : Nat → Nat × Nat} (l : Launch) {I : KI} {J : KJ} {Q : KQ} {h0 : Nat} {x1 : Int32} {x2 : Int32} {post : Int32 → KI → Prop} (hWF : WF Z N T Q) (z0 : OKr Z N T h0 (10, 0)) (hw : wp_X10_view I Q h0 x1 x2 post) : Met l yX10_view (.code yX10_view cX10_view 3 (some .int) :: BIG) ({ frames := 6, cells := 0, slots := 0, locals := 143 }) (Pr D D2 A ad N T I J Q [.ref (ad h0), .int x1, .int x2]) (va_Qi (fun (r : Int32) (u : KS) => post r u.1 ∧ u.2.1 = J ∧ u.2.2 = Q ∧ WF Z N T u.2.2) (Bw D D2 ad N T) A) 0 0 A := by
  refine Met_GG (lv0 := [(0, .ref (ad h0)), (1, .int x1), (2, .int x2)]) (by decide +kernel) [.ref (ad h0), .int x1, .int x2] (Nat.le_of_ble_eq_true rfl) rfl ?_
  intro p e s m below meth c C hr
  have C : CX p s m [.ref (ad h0), .int x1, .int x2].toArray meth c cX10_view 3 RX10 A D D2 := C
  unfold wp_X10_view at hw
  refine g_iload_n C dX10_view_0 rfl 1 rfl ?_
  refine g_if_lt (tgt := 21) C dX10_view_1 (by decide) (fun c1 => ?_) (fun c1 => ?_)
  · have hw := hw.1 c1
    refine g_iconst (v := (-1 : Int32)) C dX10_view_21 (by decide) ?_
    exact g_iret C dX10_view_22 hr ⟨hw, rfl, rfl, hWF⟩
  · have hw := hw.2 c1
    refine g_iload_n C dX10_view_4 rfl 1 rfl ?_
    refine g_bipush (v := (9 : Int32)) C dX10_view_5 (by decide) ?_
    refine g_icmp_gt (tgt := 21) C dX10_view_7 (by decide) (fun c2 => ?_) (fun c2 => ?_)
    · have hw := hw.1 c2
      refine g_iconst (v := (-1 : Int32)) C dX10_view_21 (by decide) ?_
      exact g_iret C dX10_view_22 hr ⟨hw, rfl, rfl, hWF⟩
    · have hw := hw.2 c2
      refine g_aload_n C dX10_view_10 rfl 0 rfl ?_
      refine g_getQ C dX10_view_11 ft_247 z0 (hWF.q z0 0 rfl) ?_
      have zz3 := hWF.r z0 0 rfl
      refine g_iload_n C dX10_view_14 rfl 2 rfl ?_
      refine g_callVi (As := [.int x2]) C dX10_view_15 ft_46 zz3 ft_258 ft_259 (met_X1_hasNode l hWF zz3 hw) ⟨rfl, rfl, Nat.le_of_ble_eq_true rfl, Nat.le_of_ble_eq_true rfl⟩ ⟨Nat.zero_le _, Nat.zero_le _⟩ rfl rfl (Nat.le_of_ble_eq_true rfl) (fun r4 I4 J4 Q4 hp => ?_)
      obtain ⟨hw, eI, eJ, eQ, hWF⟩ := hp
      have eI : I = I4 := Eq.symm eI
      subst eI
      have eJ : J = J4 := Eq.symm eJ
      subst eJ
      have eQ : Q = Q4 := Eq.symm eQ
      subst eQ
      try dsimp only at hw hWF
      refine g_if_ne (tgt := 23) C dX10_view_18 (by decide) (fun c5 => ?_) (fun c5 => ?_)
      · have hw := hw.1 c5
        refine g_aload_n C dX10_view_23 rfl 0 rfl ?_
        refine g_getQ C dX10_view_24 ft_295 z0 (hWF.q z0 7 rfl) ?_
        have zz6 := hWF.r z0 7 rfl
        refine g_aload_n C dX10_view_27 rfl 0 rfl ?_
        refine g_getQ C dX10_view_28 ft_247 z0 (hWF.q z0 0 rfl) ?_
        have zz7 := hWF.r z0 0 rfl
        refine g_iload_n C dX10_view_31 rfl 1 rfl ?_
        refine g_callVi (As := [.ref (ad (rq Q h0 0)), .int x1]) C dX10_view_32 ft_236 zz6 ft_296 ft_297 (met_X9_behind l hWF zz6 zz7 hw) ⟨rfl, rfl, Nat.le_of_ble_eq_true rfl, Nat.le_of_ble_eq_true rfl⟩ ⟨Nat.zero_le _, Nat.zero_le _⟩ rfl rfl (Nat.le_of_ble_eq_true rfl) (fun r8 I8 J8 Q8 hp => ?_)
        obtain ⟨hw, eJ, eQ, hWF⟩ := hp
        have eJ : J = J8 := Eq.symm eJ
        subst eJ
        have eQ : Q = Q8 := Eq.symm eQ
        subst eQ
        try dsimp only at hw hWF
        refine g_pop C dX10_view_35 rfl ?_
        refine g_aload_n C dX10_view_36 rfl 0 rfl ?_
        refine g_getQ C dX10_view_37 ft_295 z0 (hWF.q z0 7 rfl) ?_
        have zz9 := hWF.r z0 7 rfl
        refine g_getQ C dX10_view_40 ft_298 zz9 (hWF.q zz9 0 rfl) ?_
        have zz10 := hWF.r zz9 0 rfl
        refine g_iload_n C dX10_view_43 rfl 2 rfl ?_
        refine g_iald C dX10_view_44 zz10 hw.1 ?_
        have hw := hw.2
        exact g_iret C dX10_view_45 hr ⟨hw, rfl, rfl, hWF⟩
      · have hw := hw.2 c5
        refine g_iconst (v := (-1 : Int32)) C dX10_view_21 (by decide) ?_
        exact g_iret C dX10_view_22 hr ⟨hw, rfl, rfl, hWF⟩
def wp_X10_joined (I : KI) (J : KJ) (Q : KQ) (h0 : Nat) (x1 : Int32) (x2 : Int32) (post : Int64 → KJ → Prop) : Prop := ((x1 < 0 → post (-1 : Int64) J) ∧ (¬ x1 < 0 → (((10 : Int32) < x1 → post (-1 : Int64) J) ∧ (¬ (10 : Int32) < x1 → ((x2 < 0 → post (-1 : Int64) J) ∧ (¬ x2 < 0 → ((x2 ≤ (1 : Int32) → wp_X2_reckon I J Q (rq Q h0 8) (rq Q h0 0) x1 (fun J7 => ((¬ x2 = 0 → post (J7 (rq Q h0 8) 2) J7) ∧ (x2 = 0 → post (J7 (rq Q h0 8) 1) J7)))) ∧ (¬ x2 ≤ (1 : Int32) → post (-1 : Int64) J))))))))
set_option maxHeartbeats 4000000 in
set_option maxRecDepth 100000 in
theorem met_X10_joined {Z : Nat → Prop} {A : Nat → Prop} {D : va_G} {D2 : Nat → ClassId} {ad : Nat → Nat} {N : Nat} {T : Nat → Nat × Nat} (l : Launch) {I : KI} {J : KJ} {Q : KQ} {h0 : Nat} {x1 : Int32} {x2 : Int32} {post : Int64 → KJ → Prop} (hWF : WF Z N T Q) (z0 : OKr Z N T h0 (10, 0)) (hw : wp_X10_joined I J Q h0 x1 x2 post) : Met l yX10_joined (.code yX10_joined cX10_joined 3 (some .long) :: BIG) ({ frames := 6, cells := 0, slots := 0, locals := 141 }) (Pr D D2 A ad N T I J Q [.ref (ad h0), .int x1, .int x2]) (va_Ql (fun (r : Int64) (u : KS) => post r u.2.1 ∧ u.1 = I ∧ u.2.2 = Q ∧ WF Z N T u.2.2) (Bw D D2 ad N T) A) 0 0 A := by
  refine Met_GG (lv0 := [(0, .ref (ad h0)), (1, .int x1), (2, .int x2)]) (by decide +kernel) [.ref (ad h0), .int x1, .int x2] (Nat.le_of_ble_eq_true rfl) rfl ?_
  intro p e s m below meth c C hr
  have C : CX p s m [.ref (ad h0), .int x1, .int x2].toArray meth c cX10_joined 3 RX10 A D D2 := C
  unfold wp_X10_joined at hw
  refine g_iload_n C dX10_joined_0 rfl 1 rfl ?_
  refine g_if_lt (tgt := 19) C dX10_joined_1 (by decide) (fun c1 => ?_) (fun c1 => ?_)
  · have hw := hw.1 c1
    refine g_ldc2 C dX10_joined_19 ft_299 ?_
    exact g_lret C dX10_joined_22 hr ⟨hw, rfl, rfl, hWF⟩
  · have hw := hw.2 c1
    refine g_iload_n C dX10_joined_4 rfl 1 rfl ?_
    refine g_bipush (v := (10 : Int32)) C dX10_joined_5 (by decide) ?_
    refine g_icmp_gt (tgt := 19) C dX10_joined_7 (by decide) (fun c2 => ?_) (fun c2 => ?_)
    · have hw := hw.1 c2
      refine g_ldc2 C dX10_joined_19 ft_299 ?_
      exact g_lret C dX10_joined_22 hr ⟨hw, rfl, rfl, hWF⟩
    · have hw := hw.2 c2
      refine g_iload_n C dX10_joined_10 rfl 2 rfl ?_
      refine g_if_lt (tgt := 19) C dX10_joined_11 (by decide) (fun c3 => ?_) (fun c3 => ?_)
      · have hw := hw.1 c3
        refine g_ldc2 C dX10_joined_19 ft_299 ?_
        exact g_lret C dX10_joined_22 hr ⟨hw, rfl, rfl, hWF⟩
      · have hw := hw.2 c3
        refine g_iload_n C dX10_joined_14 rfl 2 rfl ?_
        refine g_iconst (v := (1 : Int32)) C dX10_joined_15 (by decide) ?_
        refine g_icmp_le (tgt := 23) C dX10_joined_16 (by decide) (fun c4 => ?_) (fun c4 => ?_)
        · have hw := hw.1 c4
          refine g_aload_n C dX10_joined_23 rfl 0 rfl ?_
          refine g_getQ C dX10_joined_24 ft_300 z0 (hWF.q z0 8 rfl) ?_
          have zz5 := hWF.r z0 8 rfl
          refine g_aload_n C dX10_joined_27 rfl 0 rfl ?_
          refine g_getQ C dX10_joined_28 ft_247 z0 (hWF.q z0 0 rfl) ?_
          have zz6 := hWF.r z0 0 rfl
          refine g_iload_n C dX10_joined_31 rfl 1 rfl ?_
          refine g_callVv (As := [.ref (ad (rq Q h0 0)), .int x1]) C dX10_joined_32 ft_122 zz5 ft_303 ft_304 (met_X2_reckon l hWF zz5 zz6 hw) ⟨rfl, rfl, Nat.le_of_ble_eq_true rfl, Nat.le_of_ble_eq_true rfl⟩ ⟨Nat.zero_le _, Nat.zero_le _⟩ rfl rfl (Nat.le_of_ble_eq_true rfl) (fun I7 J7 Q7 hp => ?_)
          obtain ⟨hw, eI, eQ, hWF⟩ := hp
          have eI : I = I7 := Eq.symm eI
          subst eI
          have eQ : Q = Q7 := Eq.symm eQ
          subst eQ
          try dsimp only at hw hWF
          refine g_iload_n C dX10_joined_35 rfl 2 rfl ?_
          refine g_if_ne (tgt := 49) C dX10_joined_36 (by decide) (fun c8 => ?_) (fun c8 => ?_)
          · have hw := hw.1 c8
            refine g_aload_n C dX10_joined_49 rfl 0 rfl ?_
            refine g_getQ C dX10_joined_50 ft_300 z0 (hWF.q z0 8 rfl) ?_
            have zz9 := hWF.r z0 8 rfl
            refine g_getJ C dX10_joined_53 ft_301 zz9 ?_
            exact g_lret C dX10_joined_56 hr ⟨hw, rfl, rfl, hWF⟩
          · have hw := hw.2 c8
            refine g_aload_n C dX10_joined_39 rfl 0 rfl ?_
            refine g_getQ C dX10_joined_40 ft_300 z0 (hWF.q z0 8 rfl) ?_
            have zz10 := hWF.r z0 8 rfl
            refine g_getJ C dX10_joined_43 ft_302 zz10 ?_
            refine g_goto C dX10_joined_46 (tgt := 56) (by decide) ?_
            exact g_lret C dX10_joined_56 hr ⟨hw, rfl, rfl, hWF⟩
        · have hw := hw.2 c4
          refine g_ldc2 C dX10_joined_19 ft_299 ?_
          exact g_lret C dX10_joined_22 hr ⟨hw, rfl, rfl, hWF⟩
def wp_X10_tell (I : KI) (Q : KQ) (h0 : Nat) (x1 : Int32) (x2 : Int32) (post : Int32 → KI → KQ → Prop) : Prop := wp_X1_mayBecome (rq Q h0 0) x1 x2 (fun r2 => ((¬ r2 = 0 → wp_X1_setting I (rq Q h0 0) x1 (fun r5 => ((¬ r5 = x2 → wp_X3_keep I Q (rq Q h0 1) (rq Q h0 0) (fun I9 Q9 => wp_X1_become I9 Q9 (rq Q9 h0 0) x1 x2 (fun I11 => post r5 I11 Q9))) ∧ (r5 = x2 → post (-2 : Int32) I Q)))) ∧ (r2 = 0 → post (-1 : Int32) I Q)))
set_option maxHeartbeats 4000000 in
set_option maxRecDepth 100000 in
theorem met_X10_tell {Z : Nat → Prop} {A : Nat → Prop} {D : va_G} {D2 : Nat → ClassId} {ad : Nat → Nat} {N : Nat} {T : Nat → Nat × Nat} (l : Launch) {I : KI} {J : KJ} {Q : KQ} {h0 : Nat} {x1 : Int32} {x2 : Int32} {post : Int32 → KI → KQ → Prop} (hWF : WF Z N T Q) (z0 : OKr Z N T h0 (10, 0)) (hw : wp_X10_tell I Q h0 x1 x2 post) : Met l yX10_tell (.code yX10_tell cX10_tell 4 (some .int) :: BIG) ({ frames := 4, cells := 0, slots := 0, locals := 104 }) (Pr D D2 A ad N T I J Q [.ref (ad h0), .int x1, .int x2]) (va_Qi (fun (r : Int32) (u : KS) => post r u.1 u.2.2 ∧ u.2.1 = J ∧ WF Z N T u.2.2) (Bw D D2 ad N T) A) 0 0 A := by
  refine Met_GG (lv0 := [(0, .ref (ad h0)), (1, .int x1), (2, .int x2)]) (by decide +kernel) [.ref (ad h0), .int x1, .int x2] (Nat.le_of_ble_eq_true rfl) rfl ?_
  intro p e s m below meth c C hr
  have C : CX p s m [.ref (ad h0), .int x1, .int x2].toArray meth c cX10_tell 4 RX10 A D D2 := C
  unfold wp_X10_tell at hw
  refine g_aload_n C dX10_tell_0 rfl 0 rfl ?_
  refine g_getQ C dX10_tell_1 ft_247 z0 (hWF.q z0 0 rfl) ?_
  have zz1 := hWF.r z0 0 rfl
  refine g_iload_n C dX10_tell_4 rfl 1 rfl ?_
  refine g_iload_n C dX10_tell_5 rfl 2 rfl ?_
  refine g_callVi (As := [.int x1, .int x2]) C dX10_tell_6 ft_46 zz1 ft_309 ft_310 (met_X1_mayBecome l hWF zz1 hw) ⟨rfl, rfl, Nat.le_of_ble_eq_true rfl, Nat.le_of_ble_eq_true rfl⟩ ⟨Nat.zero_le _, Nat.zero_le _⟩ rfl rfl (Nat.le_of_ble_eq_true rfl) (fun r2 I2 J2 Q2 hp => ?_)
  obtain ⟨hw, eI, eJ, eQ, hWF⟩ := hp
  have eI : I = I2 := Eq.symm eI
  subst eI
  have eJ : J = J2 := Eq.symm eJ
  subst eJ
  have eQ : Q = Q2 := Eq.symm eQ
  subst eQ
  try dsimp only at hw hWF
  refine g_if_ne (tgt := 14) C dX10_tell_9 (by decide) (fun c3 => ?_) (fun c3 => ?_)
  · have hw := hw.1 c3
    refine g_aload_n C dX10_tell_14 rfl 0 rfl ?_
    refine g_getQ C dX10_tell_15 ft_247 z0 (hWF.q z0 0 rfl) ?_
    have zz4 := hWF.r z0 0 rfl
    refine g_iload_n C dX10_tell_18 rfl 1 rfl ?_
    refine g_callVi (As := [.int x1]) C dX10_tell_19 ft_46 zz4 ft_307 ft_308 (met_X1_setting l hWF zz4 hw) ⟨rfl, rfl, Nat.le_of_ble_eq_true rfl, Nat.le_of_ble_eq_true rfl⟩ ⟨Nat.zero_le _, Nat.zero_le _⟩ rfl rfl (Nat.le_of_ble_eq_true rfl) (fun r5 I5 J5 Q5 hp => ?_)
    obtain ⟨hw, eI, eJ, eQ, hWF⟩ := hp
    have eI : I = I5 := Eq.symm eI
    subst eI
    have eJ : J = J5 := Eq.symm eJ
    subst eJ
    have eQ : Q = Q5 := Eq.symm eQ
    subst eQ
    try dsimp only at hw hWF
    refine g_istore_n (lv' := [(3, .int r5), (0, .ref (ad h0)), (1, .int x1), (2, .int x2)]) C dX10_tell_22 rfl (by decide) rfl ?_
    refine g_iload_n C dX10_tell_23 rfl 0 rfl ?_
    refine g_iload_n C dX10_tell_24 rfl 3 rfl ?_
    refine g_icmp_ne (tgt := 31) C dX10_tell_25 (by decide) (fun c6 => ?_) (fun c6 => ?_)
    · have hw := hw.1 c6
      refine g_aload_n C dX10_tell_31 rfl 1 rfl ?_
      refine g_getQ C dX10_tell_32 ft_250 z0 (hWF.q z0 1 rfl) ?_
      have zz7 := hWF.r z0 1 rfl
      refine g_aload_n C dX10_tell_35 rfl 1 rfl ?_
      refine g_getQ C dX10_tell_36 ft_247 z0 (hWF.q z0 0 rfl) ?_
      have zz8 := hWF.r z0 0 rfl
      refine g_callVv (As := [.ref (ad (rq Q h0 0))]) C dX10_tell_39 ft_133 zz7 ft_253 ft_254 (met_X3_keep l hWF zz7 zz8 hw) ⟨rfl, rfl, Nat.le_of_ble_eq_true rfl, Nat.le_of_ble_eq_true rfl⟩ ⟨Nat.zero_le _, Nat.zero_le _⟩ rfl rfl (Nat.le_of_ble_eq_true rfl) (fun I9 J9 Q9 hp => ?_)
      obtain ⟨hw, eJ, hWF⟩ := hp
      have eJ : J = J9 := Eq.symm eJ
      subst eJ
      try dsimp only at hw hWF
      refine g_aload_n C dX10_tell_42 rfl 1 rfl ?_
      refine g_getQ C dX10_tell_43 ft_247 z0 (hWF.q z0 0 rfl) ?_
      have zz10 := hWF.r z0 0 rfl
      refine g_iload_n C dX10_tell_46 rfl 2 rfl ?_
      refine g_iload_n C dX10_tell_47 rfl 3 rfl ?_
      refine g_callVv (As := [.int x1, .int x2]) C dX10_tell_48 ft_46 zz10 ft_305 ft_306 (met_X1_become l hWF zz10 hw) ⟨rfl, rfl, Nat.le_of_ble_eq_true rfl, Nat.le_of_ble_eq_true rfl⟩ ⟨Nat.zero_le _, Nat.zero_le _⟩ rfl rfl (Nat.le_of_ble_eq_true rfl) (fun I11 J11 Q11 hp => ?_)
      obtain ⟨hw, eJ, eQ, hWF⟩ := hp
      have eJ : J = J11 := Eq.symm eJ
      subst eJ
      have eQ : Q9 = Q11 := Eq.symm eQ
      subst eQ
      try dsimp only at hw hWF
      refine g_iload_n C dX10_tell_51 rfl 0 rfl ?_
      exact g_iret C dX10_tell_52 hr ⟨hw, rfl, hWF⟩
    · have hw := hw.2 c6
      refine g_bipush (v := (-2 : Int32)) C dX10_tell_28 (by decide) ?_
      exact g_iret C dX10_tell_30 hr ⟨hw, rfl, hWF⟩
  · have hw := hw.2 c3
    refine g_iconst (v := (-1 : Int32)) C dX10_tell_12 (by decide) ?_
    exact g_iret C dX10_tell_13 hr ⟨hw, rfl, hWF⟩
def wp_X10_type (I : KI) (Q : KQ) (h0 : Nat) (x1 : Int32) (post : Int32 → KI → Prop) : Prop := ((x1 < (32 : Int32) → post (-1 : Int32) I) ∧ (¬ x1 < (32 : Int32) → ((x1 ≤ (126 : Int32) → wp_X8_append I Q (rq Q h0 9) ((x1.toUInt32 % 65536).toInt32) (fun r4 I4 => ((r4 = 0 → post (-3 : Int32) I4) ∧ (¬ r4 = 0 → post (I4 (rq Q h0 9) 2) I4)))) ∧ (¬ x1 ≤ (126 : Int32) → post (-1 : Int32) I))))
set_option maxHeartbeats 4000000 in
set_option maxRecDepth 100000 in
theorem met_X10_type {Z : Nat → Prop} {A : Nat → Prop} {D : va_G} {D2 : Nat → ClassId} {ad : Nat → Nat} {N : Nat} {T : Nat → Nat × Nat} (l : Launch) {I : KI} {J : KJ} {Q : KQ} {h0 : Nat} {x1 : Int32} {post : Int32 → KI → Prop} (hWF : WF Z N T Q) (z0 : OKr Z N T h0 (10, 0)) (hw : wp_X10_type I Q h0 x1 post) : Met l yX10_type (.code yX10_type cX10_type 2 (some .int) :: BIG) ({ frames := 1, cells := 0, slots := 0, locals := 21 }) (Pr D D2 A ad N T I J Q [.ref (ad h0), .int x1]) (va_Qi (fun (r : Int32) (u : KS) => post r u.1 ∧ u.2.1 = J ∧ u.2.2 = Q ∧ WF Z N T u.2.2) (Bw D D2 ad N T) A) 0 0 A := by
  refine Met_GG (lv0 := [(0, .ref (ad h0)), (1, .int x1)]) (by decide +kernel) [.ref (ad h0), .int x1] (Nat.le_of_ble_eq_true rfl) rfl ?_
  intro p e s m below meth c C hr
  have C : CX p s m [.ref (ad h0), .int x1].toArray meth c cX10_type 2 RX10 A D D2 := C
  unfold wp_X10_type at hw
  refine g_iload_n C dX10_type_0 rfl 1 rfl ?_
  refine g_bipush (v := (32 : Int32)) C dX10_type_1 (by decide) ?_
  refine g_icmp_lt (tgt := 12) C dX10_type_3 (by decide) (fun c1 => ?_) (fun c1 => ?_)
  · have hw := hw.1 c1
    refine g_iconst (v := (-1 : Int32)) C dX10_type_12 (by decide) ?_
    exact g_iret C dX10_type_13 hr ⟨hw, rfl, rfl, hWF⟩
  · have hw := hw.2 c1
    refine g_iload_n C dX10_type_6 rfl 1 rfl ?_
    refine g_bipush (v := (126 : Int32)) C dX10_type_7 (by decide) ?_
    refine g_icmp_le (tgt := 14) C dX10_type_9 (by decide) (fun c2 => ?_) (fun c2 => ?_)
    · have hw := hw.1 c2
      refine g_aload_n C dX10_type_14 rfl 0 rfl ?_
      refine g_getQ C dX10_type_15 ft_311 z0 (hWF.q z0 9 rfl) ?_
      have zz3 := hWF.r z0 9 rfl
      refine g_iload_n C dX10_type_18 rfl 1 rfl ?_
      refine g_i2c C dX10_type_19 ?_
      refine g_callVi (As := [.int ((x1.toUInt32 % 65536).toInt32)]) C dX10_type_20 ft_204 zz3 ft_313 ft_314 (met_X8_append l hWF zz3 hw) ⟨rfl, rfl, Nat.le_of_ble_eq_true rfl, Nat.le_of_ble_eq_true rfl⟩ ⟨Nat.zero_le _, Nat.zero_le _⟩ rfl rfl (Nat.le_of_ble_eq_true rfl) (fun r4 I4 J4 Q4 hp => ?_)
      obtain ⟨hw, eJ, eQ, hWF⟩ := hp
      have eJ : J = J4 := Eq.symm eJ
      subst eJ
      have eQ : Q = Q4 := Eq.symm eQ
      subst eQ
      try dsimp only at hw hWF
      refine g_if_eq (tgt := 36) C dX10_type_23 (by decide) (fun c5 => ?_) (fun c5 => ?_)
      · have hw := hw.1 c5
        refine g_bipush (v := (-3 : Int32)) C dX10_type_36 (by decide) ?_
        exact g_iret C dX10_type_38 hr ⟨hw, rfl, rfl, hWF⟩
      · have hw := hw.2 c5
        refine g_aload_n C dX10_type_26 rfl 0 rfl ?_
        refine g_getQ C dX10_type_27 ft_311 z0 (hWF.q z0 9 rfl) ?_
        have zz6 := hWF.r z0 9 rfl
        refine g_getI C dX10_type_30 ft_312 zz6 ?_
        refine g_goto C dX10_type_33 (tgt := 38) (by decide) ?_
        exact g_iret C dX10_type_38 hr ⟨hw, rfl, rfl, hWF⟩
    · have hw := hw.2 c2
      refine g_iconst (v := (-1 : Int32)) C dX10_type_12 (by decide) ?_
      exact g_iret C dX10_type_13 hr ⟨hw, rfl, rfl, hWF⟩
def wp_X10_read (I : KI) (Q : KQ) (h0 : Nat) (post : Int32 → KI → KQ → Prop) : Prop := wp_X8_parse I Q (rq Q h0 9) (I (rq Q h0 0) 3) (fun r3 I3 => wp_X8_empty I3 (rq Q h0 9) (fun I5 => ((r3 ≤ 0 → post r3 I5 Q) ∧ (¬ r3 ≤ 0 → wp_X3_keep I5 Q (rq Q h0 1) (rq Q h0 0) (fun I9 Q9 => wp_X4_take I9 Q9 (rq Q9 (rq Q9 h0 0) 0) (rq Q9 (rq Q9 h0 9) 1) (fun I14 => post r3 I14 Q9))))))
set_option maxHeartbeats 4000000 in
set_option maxRecDepth 100000 in
theorem met_X10_read {Z : Nat → Prop} {A : Nat → Prop} {D : va_G} {D2 : Nat → ClassId} {ad : Nat → Nat} {N : Nat} {T : Nat → Nat × Nat} (l : Launch) {I : KI} {J : KJ} {Q : KQ} {h0 : Nat} {post : Int32 → KI → KQ → Prop} (hWF : WF Z N T Q) (z0 : OKr Z N T h0 (10, 0)) (hw : wp_X10_read I Q h0 post) : Met l yX10_read (.code yX10_read cX10_read 2 (some .int) :: BIG) ({ frames := 7, cells := 0, slots := 0, locals := 154 }) (Pr D D2 A ad N T I J Q [.ref (ad h0)]) (va_Qi (fun (r : Int32) (u : KS) => post r u.1 u.2.2 ∧ u.2.1 = J ∧ WF Z N T u.2.2) (Bw D D2 ad N T) A) 0 0 A := by
  refine Met_GG (lv0 := [(0, .ref (ad h0))]) (by decide +kernel) [.ref (ad h0)] (Nat.le_of_ble_eq_true rfl) rfl ?_
  intro p e s m below meth c C hr
  have C : CX p s m [.ref (ad h0)].toArray meth c cX10_read 2 RX10 A D D2 := C
  unfold wp_X10_read at hw
  refine g_aload_n C dX10_read_0 rfl 0 rfl ?_
  refine g_getQ C dX10_read_1 ft_311 z0 (hWF.q z0 9 rfl) ?_
  have zz1 := hWF.r z0 9 rfl
  refine g_aload_n C dX10_read_4 rfl 0 rfl ?_
  refine g_getQ C dX10_read_5 ft_247 z0 (hWF.q z0 0 rfl) ?_
  have zz2 := hWF.r z0 0 rfl
  refine g_getI C dX10_read_8 ft_272 zz2 ?_
  refine g_callVi (As := [.int (I (rq Q h0 0) 3)]) C dX10_read_11 ft_204 zz1 ft_319 ft_320 (met_X8_parse l hWF zz1 hw) ⟨rfl, rfl, Nat.le_of_ble_eq_true rfl, Nat.le_of_ble_eq_true rfl⟩ ⟨Nat.zero_le _, Nat.zero_le _⟩ rfl rfl (Nat.le_of_ble_eq_true rfl) (fun r3 I3 J3 Q3 hp => ?_)
  obtain ⟨hw, eJ, eQ, hWF⟩ := hp
  have eJ : J = J3 := Eq.symm eJ
  subst eJ
  have eQ : Q = Q3 := Eq.symm eQ
  subst eQ
  try dsimp only at hw hWF
  refine g_istore_n (lv' := [(1, .int r3), (0, .ref (ad h0))]) C dX10_read_14 rfl (by decide) rfl ?_
  refine g_aload_n C dX10_read_15 rfl 1 rfl ?_
  refine g_getQ C dX10_read_16 ft_311 z0 (hWF.q z0 9 rfl) ?_
  have zz4 := hWF.r z0 9 rfl
  refine g_callVv (As := []) C dX10_read_19 ft_204 zz4 ft_317 ft_318 (met_X8_empty l hWF zz4 hw) ⟨rfl, rfl, Nat.le_of_ble_eq_true rfl, Nat.le_of_ble_eq_true rfl⟩ ⟨Nat.zero_le _, Nat.zero_le _⟩ rfl rfl (Nat.le_of_ble_eq_true rfl) (fun I5 J5 Q5 hp => ?_)
  obtain ⟨hw, eJ, eQ, hWF⟩ := hp
  have eJ : J = J5 := Eq.symm eJ
  subst eJ
  have eQ : Q = Q5 := Eq.symm eQ
  subst eQ
  try dsimp only at hw hWF
  refine g_iload_n C dX10_read_22 rfl 0 rfl ?_
  refine g_if_le (tgt := 54) C dX10_read_23 (by decide) (fun c6 => ?_) (fun c6 => ?_)
  · have hw := hw.1 c6
    refine g_iload_n C dX10_read_54 rfl 0 rfl ?_
    exact g_iret C dX10_read_55 hr ⟨hw, rfl, hWF⟩
  · have hw := hw.2 c6
    refine g_aload_n C dX10_read_26 rfl 1 rfl ?_
    refine g_getQ C dX10_read_27 ft_250 z0 (hWF.q z0 1 rfl) ?_
    have zz7 := hWF.r z0 1 rfl
    refine g_aload_n C dX10_read_30 rfl 1 rfl ?_
    refine g_getQ C dX10_read_31 ft_247 z0 (hWF.q z0 0 rfl) ?_
    have zz8 := hWF.r z0 0 rfl
    refine g_callVv (As := [.ref (ad (rq Q h0 0))]) C dX10_read_34 ft_133 zz7 ft_253 ft_254 (met_X3_keep l hWF zz7 zz8 hw) ⟨rfl, rfl, Nat.le_of_ble_eq_true rfl, Nat.le_of_ble_eq_true rfl⟩ ⟨Nat.zero_le _, Nat.zero_le _⟩ rfl rfl (Nat.le_of_ble_eq_true rfl) (fun I9 J9 Q9 hp => ?_)
    obtain ⟨hw, eJ, hWF⟩ := hp
    have eJ : J = J9 := Eq.symm eJ
    subst eJ
    try dsimp only at hw hWF
    refine g_aload_n C dX10_read_37 rfl 1 rfl ?_
    refine g_getQ C dX10_read_38 ft_247 z0 (hWF.q z0 0 rfl) ?_
    have zz10 := hWF.r z0 0 rfl
    refine g_getQ C dX10_read_41 ft_275 zz10 (hWF.q zz10 0 rfl) ?_
    have zz11 := hWF.r zz10 0 rfl
    refine g_aload_n C dX10_read_44 rfl 1 rfl ?_
    refine g_getQ C dX10_read_45 ft_311 z0 (hWF.q z0 9 rfl) ?_
    have zz12 := hWF.r z0 9 rfl
    refine g_getQ C dX10_read_48 ft_315 zz12 (hWF.q zz12 1 rfl) ?_
    have zz13 := hWF.r zz12 1 rfl
    refine g_callVv (As := [.ref (ad (rq Q9 (rq Q9 h0 9) 1))]) C dX10_read_51 ft_10 zz11 ft_316 ft_89 (met_X4_take l hWF zz11 zz13 hw) ⟨rfl, rfl, Nat.le_of_ble_eq_true rfl, Nat.le_of_ble_eq_true rfl⟩ ⟨Nat.zero_le _, Nat.zero_le _⟩ rfl rfl (Nat.le_of_ble_eq_true rfl) (fun I14 J14 Q14 hp => ?_)
    obtain ⟨hw, eJ, eQ, hWF⟩ := hp
    have eJ : J = J14 := Eq.symm eJ
    subst eJ
    have eQ : Q9 = Q14 := Eq.symm eQ
    subst eQ
    try dsimp only at hw hWF
    refine g_iload_n C dX10_read_54 rfl 0 rfl ?_
    exact g_iret C dX10_read_55 hr ⟨hw, rfl, hWF⟩
def wp_X10_turn (I : KI) (Q : KQ) (h0 : Nat) (post : KI → Prop) : Prop := wp_X10_changed (I (rq Q h0 0) 8) (fun r3 => wp_X10_drawn ((sti I (rq Q h0 0) 8 r3) (rq Q h0 0) 8) (fun r5 => (((r5 - r5 / (4 : Int32) * (4 : Int32)) = 0 → wp_X5_pass (sti I (rq Q h0 0) 8 r3) Q (rq Q h0 5) (rq Q h0 0) (fun I9 => post I9)) ∧ ((r5 - r5 / (4 : Int32) * (4 : Int32)) = 3 → post (sti (sti I (rq Q h0 0) 8 r3) (rq Q h0 0) 5 ((r5 / (4 : Int32)) - (r5 / (4 : Int32)) / (4 : Int32) * (4 : Int32)))) ∧ (¬ (r5 - r5 / (4 : Int32) * (4 : Int32)) = 0 → ¬ (r5 - r5 / (4 : Int32) * (4 : Int32)) = 3 → wp_X10_leftOver (r5 / (4 : Int32)) ((sti I (rq Q h0 0) 8 r3) (rq Q h0 0) 3) (fun r15 => (vp_in r15 6 ∧ wp_X10_leftOver (r5 / (64 : Int32)) ((sti I (rq Q h0 0) 8 r3) (rq Q h0 0) 4) (fun r18 => wp_X7_add (sti I (rq Q h0 0) 8 r3) Q (rq Q (rq Q (rq Q h0 0) 1) r15.toNatClampNeg) ((1 : Int32) <<< (r18 &&& 31)) (fun r19 I19 => post I19))))))))
set_option maxHeartbeats 4000000 in
set_option maxRecDepth 100000 in
theorem met_X10_turn {Z : Nat → Prop} {A : Nat → Prop} {D : va_G} {D2 : Nat → ClassId} {ad : Nat → Nat} {N : Nat} {T : Nat → Nat × Nat} (l : Launch) {I : KI} {J : KJ} {Q : KQ} {h0 : Nat} {post : KI → Prop} (hWF : WF Z N T Q) (z0 : OKr Z N T h0 (10, 0)) (hw : wp_X10_turn I Q h0 post) : Met l yX10_turn (.code yX10_turn cX10_turn 2 none :: BIG) ({ frames := 5, cells := 0, slots := 0, locals := 118 }) (Pr D D2 A ad N T I J Q [.ref (ad h0)]) (va_Qv (fun (u : KS) => post u.1 ∧ u.2.1 = J ∧ u.2.2 = Q ∧ WF Z N T u.2.2) (Bw D D2 ad N T) A) 0 0 A := by
  refine Met_GG (lv0 := [(0, .ref (ad h0))]) (by decide +kernel) [.ref (ad h0)] (Nat.le_of_ble_eq_true rfl) rfl ?_
  intro p e s m below meth c C hr
  have C : CX p s m [.ref (ad h0)].toArray meth c cX10_turn 2 RX10 A D D2 := C
  unfold wp_X10_turn at hw
  refine g_aload_n C dX10_turn_0 rfl 0 rfl ?_
  refine g_getQ C dX10_turn_1 ft_247 z0 (hWF.q z0 0 rfl) ?_
  have zz1 := hWF.r z0 0 rfl
  refine g_aload_n C dX10_turn_4 rfl 0 rfl ?_
  refine g_getQ C dX10_turn_5 ft_247 z0 (hWF.q z0 0 rfl) ?_
  have zz2 := hWF.r z0 0 rfl
  refine g_getI C dX10_turn_8 ft_321 zz2 ?_
  refine g_callSi (As := [.int (I (rq Q h0 0) 8)]) C dX10_turn_11 ft_327 ft_147 (met_X10_changed l hWF  hw) ⟨rfl, rfl, Nat.le_of_ble_eq_true rfl, Nat.le_of_ble_eq_true rfl⟩ ⟨Nat.zero_le _, Nat.zero_le _⟩ rfl rfl (Nat.le_of_ble_eq_true rfl) (fun r3 I3 J3 Q3 hp => ?_)
  obtain ⟨hw, eI, eJ, eQ, hWF⟩ := hp
  have eI : I = I3 := Eq.symm eI
  subst eI
  have eJ : J = J3 := Eq.symm eJ
  subst eJ
  have eQ : Q = Q3 := Eq.symm eQ
  subst eQ
  try dsimp only at hw hWF
  refine g_putI C dX10_turn_14 ft_322 zz1 ?_
  refine g_aload_n C dX10_turn_17 rfl 0 rfl ?_
  refine g_getQ C dX10_turn_18 ft_247 z0 (hWF.q z0 0 rfl) ?_
  have zz4 := hWF.r z0 0 rfl
  refine g_getI C dX10_turn_21 ft_321 zz4 ?_
  refine g_callSi (As := [.int ((sti I (rq Q h0 0) 8 r3) (rq Q h0 0) 8)]) C dX10_turn_24 ft_326 ft_145 (met_X10_drawn l hWF  hw) ⟨rfl, rfl, Nat.le_of_ble_eq_true rfl, Nat.le_of_ble_eq_true rfl⟩ ⟨Nat.zero_le _, Nat.zero_le _⟩ rfl rfl (Nat.le_of_ble_eq_true rfl) (fun r5 I5 J5 Q5 hp => ?_)
  obtain ⟨hw, eI, eJ, eQ, hWF⟩ := hp
  have eI : (sti I (rq Q h0 0) 8 r3) = I5 := Eq.symm eI
  subst eI
  have eJ : J = J5 := Eq.symm eJ
  subst eJ
  have eQ : Q = Q5 := Eq.symm eQ
  subst eQ
  try dsimp only at hw hWF
  refine g_istore_n (lv' := [(1, .int r5), (0, .ref (ad h0))]) C dX10_turn_27 rfl (by decide) rfl ?_
  refine g_iload_n C dX10_turn_28 rfl 0 rfl ?_
  refine g_iconst (v := (4 : Int32)) C dX10_turn_29 (by decide) ?_
  refine g_irem C dX10_turn_30 (by decide) ?_
  by_cases c6 : (r5 - r5 / (4 : Int32) * (4 : Int32)) = 0
  · have hw := hw.1 c6
    refine g_lookup (tgt := 56) C dX10_turn_31 (by decide) (by rw [c6] <;> rfl) (by decide) ?_
    refine g_aload_n C dX10_turn_56 rfl 1 rfl ?_
    refine g_getQ C dX10_turn_57 ft_264 z0 (hWF.q z0 5 rfl) ?_
    have zz7 := hWF.r z0 5 rfl
    refine g_aload_n C dX10_turn_60 rfl 1 rfl ?_
    refine g_getQ C dX10_turn_61 ft_247 z0 (hWF.q z0 0 rfl) ?_
    have zz8 := hWF.r z0 0 rfl
    refine g_callVv (As := [.ref (ad (rq Q h0 0))]) C dX10_turn_64 ft_37 zz7 ft_323 ft_168 (met_X5_pass l hWF zz7 zz8 hw) ⟨rfl, rfl, Nat.le_of_ble_eq_true rfl, Nat.le_of_ble_eq_true rfl⟩ ⟨Nat.zero_le _, Nat.zero_le _⟩ rfl rfl (Nat.le_of_ble_eq_true rfl) (fun I9 J9 Q9 hp => ?_)
    obtain ⟨hw, eJ, eQ, hWF⟩ := hp
    have eJ : J = J9 := Eq.symm eJ
    subst eJ
    have eQ : Q = Q9 := Eq.symm eQ
    subst eQ
    try dsimp only at hw hWF
    refine g_goto C dX10_turn_67 (tgt := 126) (by decide) ?_
    exact g_vret C dX10_turn_126 hr ⟨hw, rfl, rfl, hWF⟩
  by_cases c10 : (r5 - r5 / (4 : Int32) * (4 : Int32)) = 3
  · have hw := hw.2.1 c10
    refine g_lookup (tgt := 70) C dX10_turn_31 (by decide) (by rw [c10] <;> rfl) (by decide) ?_
    refine g_aload_n C dX10_turn_70 rfl 1 rfl ?_
    refine g_getQ C dX10_turn_71 ft_247 z0 (hWF.q z0 0 rfl) ?_
    have zz11 := hWF.r z0 0 rfl
    refine g_iload_n C dX10_turn_74 rfl 0 rfl ?_
    refine g_iconst (v := (4 : Int32)) C dX10_turn_75 (by decide) ?_
    refine g_idiv C dX10_turn_76 (by decide) ?_
    refine g_iconst (v := (4 : Int32)) C dX10_turn_77 (by decide) ?_
    refine g_irem C dX10_turn_78 (by decide) ?_
    refine g_putI C dX10_turn_79 ft_324 zz11 ?_
    refine g_goto C dX10_turn_82 (tgt := 126) (by decide) ?_
    exact g_vret C dX10_turn_126 hr ⟨hw, rfl, rfl, hWF⟩
  have hw := hw.2.2 c6 c10
  refine g_lookup (tgt := 85) C dX10_turn_31 (by decide) (lk_out c6 c10) (by decide) ?_
  refine g_aload_n C dX10_turn_85 rfl 1 rfl ?_
  refine g_getQ C dX10_turn_86 ft_247 z0 (hWF.q z0 0 rfl) ?_
  have zz12 := hWF.r z0 0 rfl
  refine g_getQ C dX10_turn_89 ft_249 zz12 (hWF.q zz12 1 rfl) ?_
  have zz13 := hWF.r zz12 1 rfl
  refine g_iload_n C dX10_turn_92 rfl 0 rfl ?_
  refine g_iconst (v := (4 : Int32)) C dX10_turn_93 (by decide) ?_
  refine g_idiv C dX10_turn_94 (by decide) ?_
  refine g_aload_n C dX10_turn_95 rfl 1 rfl ?_
  refine g_getQ C dX10_turn_96 ft_247 z0 (hWF.q z0 0 rfl) ?_
  have zz14 := hWF.r z0 0 rfl
  refine g_getI C dX10_turn_99 ft_272 zz14 ?_
  refine g_callSi (As := [.int (r5 / (4 : Int32)), .int ((sti I (rq Q h0 0) 8 r3) (rq Q h0 0) 3)]) C dX10_turn_102 ft_325 ft_12 (met_X10_leftOver l hWF  hw) ⟨rfl, rfl, Nat.le_of_ble_eq_true rfl, Nat.le_of_ble_eq_true rfl⟩ ⟨Nat.zero_le _, Nat.zero_le _⟩ rfl rfl (Nat.le_of_ble_eq_true rfl) (fun r15 I15 J15 Q15 hp => ?_)
  obtain ⟨hw, eI, eJ, eQ, hWF⟩ := hp
  have eI : (sti I (rq Q h0 0) 8 r3) = I15 := Eq.symm eI
  subst eI
  have eJ : J = J15 := Eq.symm eJ
  subst eJ
  have eQ : Q = Q15 := Eq.symm eQ
  subst eQ
  try dsimp only at hw hWF
  have hrzz16 := rft_eS hw.1
  refine g_aaldS C dX10_turn_105 zz13 hw.1 (hWF.q zz13 _ hrzz16) ?_
  have zz16 := hWF.r zz13 _ hrzz16
  have hw := hw.2
  refine g_iconst (v := (1 : Int32)) C dX10_turn_106 (by decide) ?_
  refine g_iload_n C dX10_turn_107 rfl 0 rfl ?_
  refine g_bipush (v := (64 : Int32)) C dX10_turn_108 (by decide) ?_
  refine g_idiv C dX10_turn_110 (by decide) ?_
  refine g_aload_n C dX10_turn_111 rfl 1 rfl ?_
  refine g_getQ C dX10_turn_112 ft_247 z0 (hWF.q z0 0 rfl) ?_
  have zz17 := hWF.r z0 0 rfl
  refine g_getI C dX10_turn_115 ft_273 zz17 ?_
  refine g_callSi (As := [.int (r5 / (64 : Int32)), .int ((sti I (rq Q h0 0) 8 r3) (rq Q h0 0) 4)]) C dX10_turn_118 ft_325 ft_12 (met_X10_leftOver l hWF  hw) ⟨rfl, rfl, Nat.le_of_ble_eq_true rfl, Nat.le_of_ble_eq_true rfl⟩ ⟨Nat.zero_le _, Nat.zero_le _⟩ rfl rfl (Nat.le_of_ble_eq_true rfl) (fun r18 I18 J18 Q18 hp => ?_)
  obtain ⟨hw, eI, eJ, eQ, hWF⟩ := hp
  have eI : (sti I (rq Q h0 0) 8 r3) = I18 := Eq.symm eI
  subst eI
  have eJ : J = J18 := Eq.symm eJ
  subst eJ
  have eQ : Q = Q18 := Eq.symm eQ
  subst eQ
  try dsimp only at hw hWF
  refine g_ishl C dX10_turn_121 ?_
  refine g_callVi (As := [.int ((1 : Int32) <<< (r18 &&& 31))]) C dX10_turn_122 ft_22 zz16 ft_252 ft_28 (met_X7_add l hWF zz16 hw) ⟨rfl, rfl, Nat.le_of_ble_eq_true rfl, Nat.le_of_ble_eq_true rfl⟩ ⟨Nat.zero_le _, Nat.zero_le _⟩ rfl rfl (Nat.le_of_ble_eq_true rfl) (fun r19 I19 J19 Q19 hp => ?_)
  obtain ⟨hw, eJ, eQ, hWF⟩ := hp
  have eJ : J = J19 := Eq.symm eJ
  subst eJ
  have eQ : Q = Q19 := Eq.symm eQ
  subst eQ
  try dsimp only at hw hWF
  refine g_pop C dX10_turn_125 rfl ?_
  exact g_vret C dX10_turn_126 hr ⟨hw, rfl, rfl, hWF⟩
def wp_X10_drift_L15 (f0_3 : Nat) (f1_3 : Int32) (k41 : KI → KQ → Prop) : Nat → KI → KQ → Int32 → Prop
  | 0, _, _, _ => False
  | n15 + 1, I_3, Q_3, x2_3 => ((f1_3 ≤ x2_3 → k41 I_3 Q_3) ∧ (¬ f1_3 ≤ x2_3 → wp_X3_keep I_3 Q_3 (rq Q_3 f0_3 1) (rq Q_3 f0_3 0) (fun I7 Q7 => wp_X10_turn I7 Q7 f0_3 (fun I8 => wp_X10_drift_L15 f0_3 f1_3 k41 n15 I8 Q7 (x2_3 + (1 : Int32))))))
def wp_X10_drift (I : KI) (Q : KQ) (h0 : Nat) (x1 : Int32) (post : Int32 → KI → KQ → Prop) : Prop := ((x1 < (1 : Int32) → post (-1 : Int32) I Q) ∧ (¬ x1 < (1 : Int32) → ((x1 ≤ (40 : Int32) → (∃ q15, wp_X10_drift_L15 h0 x1 (fun I_10 Q_10 => wp_X1_ranks I_10 Q_10 (rq Q_10 h0 0) (fun r12 => post r12 I_10 Q_10)) q15 I Q (0 : Int32))) ∧ (¬ x1 ≤ (40 : Int32) → post (-1 : Int32) I Q))))
set_option maxHeartbeats 4000000 in
set_option maxRecDepth 100000 in
theorem met_X10_drift {Z : Nat → Prop} {A : Nat → Prop} {D : va_G} {D2 : Nat → ClassId} {ad : Nat → Nat} {N : Nat} {T : Nat → Nat × Nat} (l : Launch) {I : KI} {J : KJ} {Q : KQ} {h0 : Nat} {x1 : Int32} {post : Int32 → KI → KQ → Prop} (hWF : WF Z N T Q) (z0 : OKr Z N T h0 (10, 0)) (hw : wp_X10_drift I Q h0 x1 post) : Met l yX10_drift (.code yX10_drift cX10_drift 3 (some .int) :: BIG) ({ frames := 6, cells := 0, slots := 0, locals := 139 }) (Pr D D2 A ad N T I J Q [.ref (ad h0), .int x1]) (va_Qi (fun (r : Int32) (u : KS) => post r u.1 u.2.2 ∧ u.2.1 = J ∧ WF Z N T u.2.2) (Bw D D2 ad N T) A) 0 0 A := by
  refine Met_GG (lv0 := [(0, .ref (ad h0)), (1, .int x1)]) (by decide +kernel) [.ref (ad h0), .int x1] (Nat.le_of_ble_eq_true rfl) rfl ?_
  intro p e s m below meth c C hr
  have C : CX p s m [.ref (ad h0), .int x1].toArray meth c cX10_drift 3 RX10 A D D2 := C
  unfold wp_X10_drift at hw
  refine g_iload_n C dX10_drift_0 rfl 1 rfl ?_
  refine g_iconst (v := (1 : Int32)) C dX10_drift_1 (by decide) ?_
  refine g_icmp_lt (tgt := 11) C dX10_drift_2 (by decide) (fun c1 => ?_) (fun c1 => ?_)
  · have hw := hw.1 c1
    refine g_iconst (v := (-1 : Int32)) C dX10_drift_11 (by decide) ?_
    exact g_iret C dX10_drift_12 hr ⟨hw, rfl, hWF⟩
  · have hw := hw.2 c1
    refine g_iload_n C dX10_drift_5 rfl 1 rfl ?_
    refine g_bipush (v := (40 : Int32)) C dX10_drift_6 (by decide) ?_
    refine g_icmp_le (tgt := 13) C dX10_drift_8 (by decide) (fun c2 => ?_) (fun c2 => ?_)
    · have hw := hw.1 c2
      refine g_iconst (v := (0 : Int32)) C dX10_drift_13 (by decide) ?_
      refine g_istore_n (lv' := [(2, .int (0 : Int32)), (0, .ref (ad h0)), (1, .int x1)]) C dX10_drift_14 rfl (by decide) rfl ?_
      have K41_u9 : ∀ (I_10 : KI) (Q_10 : KQ), (wp_X1_ranks I_10 Q_10 (rq Q_10 h0 0) (fun r12 => post r12 I_10 Q_10)) → WF Z N T Q_10 → GG p l e ({ frames := 6, cells := 0, slots := 0, locals := 139 }) s m [.ref (ad h0), .int x1].toArray below meth c 3 A D D2 0 0 (MQ below (va_Qi (fun (r : Int32) (u : KS) => post r u.1 u.2.2 ∧ u.2.1 = J ∧ WF Z N T u.2.2) (Bw D D2 ad N T) A) [.ref (ad h0), .int x1].toArray s 0 0 A) ad N T I_10 J Q_10 41 [(0, .ref (ad h0))] [] := by
        intro I_10 Q_10 hw hWF
        refine g_aload_n C dX10_drift_41 rfl 0 rfl ?_
        refine g_getQ C dX10_drift_42 ft_247 z0 (hWF.q z0 0 rfl) ?_
        have zz11 := hWF.r z0 0 rfl
        refine g_callVi (As := []) C dX10_drift_45 ft_46 zz11 ft_277 ft_278 (met_X1_ranks l hWF zz11 hw) ⟨rfl, rfl, Nat.le_of_ble_eq_true rfl, Nat.le_of_ble_eq_true rfl⟩ ⟨Nat.zero_le _, Nat.zero_le _⟩ rfl rfl (Nat.le_of_ble_eq_true rfl) (fun r12 I12 J12 Q12 hp => ?_)
        obtain ⟨hw, eI, eJ, eQ, hWF⟩ := hp
        have eI : I_10 = I12 := Eq.symm eI
        subst eI
        have eJ : J = J12 := Eq.symm eJ
        subst eJ
        have eQ : Q_10 = Q12 := Eq.symm eQ
        subst eQ
        try dsimp only at hw hWF
        exact g_iret C dX10_drift_48 hr ⟨hw, rfl, hWF⟩
      have L15_u9 : ∀ (n15 : Nat) (I_3 : KI) (Q_3 : KQ) (x2_3 : Int32), wp_X10_drift_L15 h0 x1 (fun I_10 Q_10 => wp_X1_ranks I_10 Q_10 (rq Q_10 h0 0) (fun r12 => post r12 I_10 Q_10)) n15 I_3 Q_3 x2_3 → WF Z N T Q_3 → GG p l e ({ frames := 6, cells := 0, slots := 0, locals := 139 }) s m [.ref (ad h0), .int x1].toArray below meth c 3 A D D2 0 0 (MQ below (va_Qi (fun (r : Int32) (u : KS) => post r u.1 u.2.2 ∧ u.2.1 = J ∧ WF Z N T u.2.2) (Bw D D2 ad N T) A) [.ref (ad h0), .int x1].toArray s 0 0 A) ad N T I_3 J Q_3 15 [(0, .ref (ad h0)), (1, .int x1), (2, .int x2_3)] [] := by
        intro n15
        induction n15 with
        | zero => intro I_3 Q_3 x2_3 hw; exact hw.elim
        | succ n15 ih_u9 =>
          intro I_3 Q_3 x2_3 hw hWF
          unfold wp_X10_drift_L15 at hw
          refine g_iload_n C dX10_drift_15 rfl 2 rfl ?_
          refine g_iload_n C dX10_drift_16 rfl 1 rfl ?_
          refine g_icmp_ge (tgt := 41) C dX10_drift_17 (by decide) (fun c14 => ?_) (fun c14 => ?_)
          · have hw := hw.1 c14
            refine g_sub [0] rfl ?_
            exact K41_u9 I_3 Q_3 hw hWF
          · have hw := hw.2 c14
            refine g_aload_n C dX10_drift_20 rfl 0 rfl ?_
            refine g_getQ C dX10_drift_21 ft_250 z0 (hWF.q z0 1 rfl) ?_
            have zz15 := hWF.r z0 1 rfl
            refine g_aload_n C dX10_drift_24 rfl 0 rfl ?_
            refine g_getQ C dX10_drift_25 ft_247 z0 (hWF.q z0 0 rfl) ?_
            have zz16 := hWF.r z0 0 rfl
            refine g_callVv (As := [.ref (ad (rq Q_3 h0 0))]) C dX10_drift_28 ft_133 zz15 ft_253 ft_254 (met_X3_keep l hWF zz15 zz16 hw) ⟨rfl, rfl, Nat.le_of_ble_eq_true rfl, Nat.le_of_ble_eq_true rfl⟩ ⟨Nat.zero_le _, Nat.zero_le _⟩ rfl rfl (Nat.le_of_ble_eq_true rfl) (fun I17 J17 Q17 hp => ?_)
            obtain ⟨hw, eJ, hWF⟩ := hp
            have eJ : J = J17 := Eq.symm eJ
            subst eJ
            try dsimp only at hw hWF
            refine g_aload_n C dX10_drift_31 rfl 0 rfl ?_
            refine g_callVv (As := []) C dX10_drift_32 ft_330 z0 ft_328 ft_329 (met_X10_turn l hWF z0 hw) ⟨rfl, rfl, Nat.le_of_ble_eq_true rfl, Nat.le_of_ble_eq_true rfl⟩ ⟨Nat.zero_le _, Nat.zero_le _⟩ rfl rfl (Nat.le_of_ble_eq_true rfl) (fun I18 J18 Q18 hp => ?_)
            obtain ⟨hw, eJ, eQ, hWF⟩ := hp
            have eJ : J = J18 := Eq.symm eJ
            subst eJ
            have eQ : Q17 = Q18 := Eq.symm eQ
            subst eQ
            try dsimp only at hw hWF
            refine g_iinc (v := (x2_3 + (1 : Int32))) (lv' := [(2, .int (x2_3 + (1 : Int32))), (0, .ref (ad h0)), (1, .int x1)]) C dX10_drift_35 (q := 2) rfl rfl (by decide) rfl ?_
            refine g_goto C dX10_drift_38 (tgt := 15) (by decide) ?_
            refine g_sub [1, 2, 0] rfl ?_
            exact ih_u9 I18 Q17 (x2_3 + (1 : Int32)) hw hWF
      obtain ⟨n_u9, hw⟩ := hw
      refine g_sub [1, 2, 0] rfl ?_
      exact L15_u9 n_u9 I Q (0 : Int32) hw hWF
    · have hw := hw.2 c2
      refine g_iconst (v := (-1 : Int32)) C dX10_drift_11 (by decide) ?_
      exact g_iret C dX10_drift_12 hr ⟨hw, rfl, hWF⟩
def wp_X10_undo (I : KI) (Q : KQ) (h0 : Nat) (post : Int32 → KI → Prop) : Prop := wp_X3_back I Q (rq Q h0 1) (rq Q h0 0) (fun r3 I3 => ((r3 = 0 → post (-4 : Int32) I3) ∧ (¬ r3 = 0 → post (I3 (rq Q h0 1) 1) I3)))
set_option maxHeartbeats 4000000 in
set_option maxRecDepth 100000 in
theorem met_X10_undo {Z : Nat → Prop} {A : Nat → Prop} {D : va_G} {D2 : Nat → ClassId} {ad : Nat → Nat} {N : Nat} {T : Nat → Nat × Nat} (l : Launch) {I : KI} {J : KJ} {Q : KQ} {h0 : Nat} {post : Int32 → KI → Prop} (hWF : WF Z N T Q) (z0 : OKr Z N T h0 (10, 0)) (hw : wp_X10_undo I Q h0 post) : Met l yX10_undo (.code yX10_undo cX10_undo 1 (some .int) :: BIG) ({ frames := 4, cells := 0, slots := 0, locals := 104 }) (Pr D D2 A ad N T I J Q [.ref (ad h0)]) (va_Qi (fun (r : Int32) (u : KS) => post r u.1 ∧ u.2.1 = J ∧ u.2.2 = Q ∧ WF Z N T u.2.2) (Bw D D2 ad N T) A) 0 0 A := by
  refine Met_GG (lv0 := [(0, .ref (ad h0))]) (by decide +kernel) [.ref (ad h0)] (Nat.le_of_ble_eq_true rfl) rfl ?_
  intro p e s m below meth c C hr
  have C : CX p s m [.ref (ad h0)].toArray meth c cX10_undo 1 RX10 A D D2 := C
  unfold wp_X10_undo at hw
  refine g_aload_n C dX10_undo_0 rfl 0 rfl ?_
  refine g_getQ C dX10_undo_1 ft_250 z0 (hWF.q z0 1 rfl) ?_
  have zz1 := hWF.r z0 1 rfl
  refine g_aload_n C dX10_undo_4 rfl 0 rfl ?_
  refine g_getQ C dX10_undo_5 ft_247 z0 (hWF.q z0 0 rfl) ?_
  have zz2 := hWF.r z0 0 rfl
  refine g_callVi (As := [.ref (ad (rq Q h0 0))]) C dX10_undo_8 ft_133 zz1 ft_331 ft_332 (met_X3_back l hWF zz1 zz2 hw) ⟨rfl, rfl, Nat.le_of_ble_eq_true rfl, Nat.le_of_ble_eq_true rfl⟩ ⟨Nat.zero_le _, Nat.zero_le _⟩ rfl rfl (Nat.le_of_ble_eq_true rfl) (fun r3 I3 J3 Q3 hp => ?_)
  obtain ⟨hw, eJ, eQ, hWF⟩ := hp
  have eJ : J = J3 := Eq.symm eJ
  subst eJ
  have eQ : Q = Q3 := Eq.symm eQ
  subst eQ
  try dsimp only at hw hWF
  refine g_if_eq (tgt := 24) C dX10_undo_11 (by decide) (fun c4 => ?_) (fun c4 => ?_)
  · have hw := hw.1 c4
    refine g_bipush (v := (-4 : Int32)) C dX10_undo_24 (by decide) ?_
    exact g_iret C dX10_undo_26 hr ⟨hw, rfl, rfl, hWF⟩
  · have hw := hw.2 c4
    refine g_aload_n C dX10_undo_14 rfl 0 rfl ?_
    refine g_getQ C dX10_undo_15 ft_250 z0 (hWF.q z0 1 rfl) ?_
    have zz5 := hWF.r z0 1 rfl
    refine g_getI C dX10_undo_18 ft_280 zz5 ?_
    refine g_goto C dX10_undo_21 (tgt := 26) (by decide) ?_
    exact g_iret C dX10_undo_26 hr ⟨hw, rfl, rfl, hWF⟩
def wp_X10_seed (I : KI) (Q : KQ) (h0 : Nat) (x1 : Int32) (post : Int32 → KI → Prop) : Prop := ((0 ≤ x1 → post (I (rq Q h0 0) 8) (sti I (rq Q h0 0) 8 x1)) ∧ (¬ 0 ≤ x1 → post (-1 : Int32) I))
set_option maxHeartbeats 4000000 in
set_option maxRecDepth 100000 in
theorem met_X10_seed {Z : Nat → Prop} {A : Nat → Prop} {D : va_G} {D2 : Nat → ClassId} {ad : Nat → Nat} {N : Nat} {T : Nat → Nat × Nat} (l : Launch) {I : KI} {J : KJ} {Q : KQ} {h0 : Nat} {x1 : Int32} {post : Int32 → KI → Prop} (hWF : WF Z N T Q) (z0 : OKr Z N T h0 (10, 0)) (hw : wp_X10_seed I Q h0 x1 post) : Met l yX10_seed (.code yX10_seed cX10_seed 3 (some .int) :: BIG) ({ frames := 0, cells := 0, slots := 0, locals := 0 }) (Pr D D2 A ad N T I J Q [.ref (ad h0), .int x1]) (va_Qi (fun (r : Int32) (u : KS) => post r u.1 ∧ u.2.1 = J ∧ u.2.2 = Q ∧ WF Z N T u.2.2) (Bw D D2 ad N T) A) 0 0 A := by
  refine Met_GG (lv0 := [(0, .ref (ad h0)), (1, .int x1)]) (by decide +kernel) [.ref (ad h0), .int x1] (Nat.le_of_ble_eq_true rfl) rfl ?_
  intro p e s m below meth c C hr
  have C : CX p s m [.ref (ad h0), .int x1].toArray meth c cX10_seed 3 RX10 A D D2 := C
  unfold wp_X10_seed at hw
  refine g_iload_n C dX10_seed_0 rfl 1 rfl ?_
  refine g_if_ge (tgt := 6) C dX10_seed_1 (by decide) (fun c1 => ?_) (fun c1 => ?_)
  · have hw := hw.1 c1
    refine g_aload_n C dX10_seed_6 rfl 0 rfl ?_
    refine g_getQ C dX10_seed_7 ft_247 z0 (hWF.q z0 0 rfl) ?_
    have zz2 := hWF.r z0 0 rfl
    refine g_getI C dX10_seed_10 ft_321 zz2 ?_
    refine g_istore_n (lv' := [(2, .int (I (rq Q h0 0) 8)), (0, .ref (ad h0)), (1, .int x1)]) C dX10_seed_13 rfl (by decide) rfl ?_
    refine g_aload_n C dX10_seed_14 rfl 1 rfl ?_
    refine g_getQ C dX10_seed_15 ft_247 z0 (hWF.q z0 0 rfl) ?_
    have zz3 := hWF.r z0 0 rfl
    refine g_iload_n C dX10_seed_18 rfl 2 rfl ?_
    refine g_putI C dX10_seed_19 ft_322 zz3 ?_
    refine g_iload_n C dX10_seed_22 rfl 0 rfl ?_
    exact g_iret C dX10_seed_23 hr ⟨hw, rfl, rfl, hWF⟩
  · have hw := hw.2 c1
    refine g_iconst (v := (-1 : Int32)) C dX10_seed_4 (by decide) ?_
    exact g_iret C dX10_seed_5 hr ⟨hw, rfl, rfl, hWF⟩
def wp_X10_image (I : KI) (Q : KQ) (h0 : Nat) (post : Int32 → KI → Prop) : Prop := wp_X1_take I Q (rq Q h0 2) (rq Q h0 0) (fun I3 => wp_X3_take I3 Q (rq Q h0 3) (rq Q h0 1) (fun I6 => post (1 : Int32) (sti I6 h0 11 (1 : Int32))))
set_option maxHeartbeats 4000000 in
set_option maxRecDepth 100000 in
theorem met_X10_image {Z : Nat → Prop} {A : Nat → Prop} {D : va_G} {D2 : Nat → ClassId} {ad : Nat → Nat} {N : Nat} {T : Nat → Nat × Nat} (l : Launch) {I : KI} {J : KJ} {Q : KQ} {h0 : Nat} {post : Int32 → KI → Prop} (hWF : WF Z N T Q) (z0 : OKr Z N T h0 (10, 0)) (hw : wp_X10_image I Q h0 post) : Met l yX10_image (.code yX10_image cX10_image 1 (some .int) :: BIG) ({ frames := 4, cells := 0, slots := 0, locals := 105 }) (Pr D D2 A ad N T I J Q [.ref (ad h0)]) (va_Qi (fun (r : Int32) (u : KS) => post r u.1 ∧ u.2.1 = J ∧ u.2.2 = Q ∧ WF Z N T u.2.2) (Bw D D2 ad N T) A) 0 0 A := by
  refine Met_GG (lv0 := [(0, .ref (ad h0))]) (by decide +kernel) [.ref (ad h0)] (Nat.le_of_ble_eq_true rfl) rfl ?_
  intro p e s m below meth c C hr
  have C : CX p s m [.ref (ad h0)].toArray meth c cX10_image 1 RX10 A D D2 := C
  unfold wp_X10_image at hw
  refine g_aload_n C dX10_image_0 rfl 0 rfl ?_
  refine g_getQ C dX10_image_1 ft_333 z0 (hWF.q z0 2 rfl) ?_
  have zz1 := hWF.r z0 2 rfl
  refine g_aload_n C dX10_image_4 rfl 0 rfl ?_
  refine g_getQ C dX10_image_5 ft_247 z0 (hWF.q z0 0 rfl) ?_
  have zz2 := hWF.r z0 0 rfl
  refine g_callVv (As := [.ref (ad (rq Q h0 0))]) C dX10_image_8 ft_46 zz1 ft_294 ft_130 (met_X1_take l hWF zz1 zz2 hw) ⟨rfl, rfl, Nat.le_of_ble_eq_true rfl, Nat.le_of_ble_eq_true rfl⟩ ⟨Nat.zero_le _, Nat.zero_le _⟩ rfl rfl (Nat.le_of_ble_eq_true rfl) (fun I3 J3 Q3 hp => ?_)
  obtain ⟨hw, eJ, eQ, hWF⟩ := hp
  have eJ : J = J3 := Eq.symm eJ
  subst eJ
  have eQ : Q = Q3 := Eq.symm eQ
  subst eQ
  try dsimp only at hw hWF
  refine g_aload_n C dX10_image_11 rfl 0 rfl ?_
  refine g_getQ C dX10_image_12 ft_334 z0 (hWF.q z0 3 rfl) ?_
  have zz4 := hWF.r z0 3 rfl
  refine g_aload_n C dX10_image_15 rfl 0 rfl ?_
  refine g_getQ C dX10_image_16 ft_250 z0 (hWF.q z0 1 rfl) ?_
  have zz5 := hWF.r z0 1 rfl
  refine g_callVv (As := [.ref (ad (rq Q h0 1))]) C dX10_image_19 ft_133 zz4 ft_336 ft_337 (met_X3_take l hWF zz4 zz5 hw) ⟨rfl, rfl, Nat.le_of_ble_eq_true rfl, Nat.le_of_ble_eq_true rfl⟩ ⟨Nat.zero_le _, Nat.zero_le _⟩ rfl rfl (Nat.le_of_ble_eq_true rfl) (fun I6 J6 Q6 hp => ?_)
  obtain ⟨hw, eJ, eQ, hWF⟩ := hp
  have eJ : J = J6 := Eq.symm eJ
  subst eJ
  have eQ : Q = Q6 := Eq.symm eQ
  subst eQ
  try dsimp only at hw hWF
  refine g_aload_n C dX10_image_22 rfl 0 rfl ?_
  refine g_iconst (v := (1 : Int32)) C dX10_image_23 (by decide) ?_
  refine g_putZ C dX10_image_24 ft_335 z0 rfl rfl ?_
  refine g_iconst (v := (1 : Int32)) C dX10_image_27 (by decide) ?_
  exact g_iret C dX10_image_28 hr ⟨hw, rfl, rfl, hWF⟩
def wp_X10_restore (I : KI) (Q : KQ) (h0 : Nat) (post : Int32 → KI → Prop) : Prop := ((¬ (I h0 11) = 0 → wp_X1_take I Q (rq Q h0 0) (rq Q h0 2) (fun I4 => wp_X3_take I4 Q (rq Q h0 1) (rq Q h0 3) (fun I7 => post (1 : Int32) I7))) ∧ ((I h0 11) = 0 → post (-4 : Int32) I))
set_option maxHeartbeats 4000000 in
set_option maxRecDepth 100000 in
theorem met_X10_restore {Z : Nat → Prop} {A : Nat → Prop} {D : va_G} {D2 : Nat → ClassId} {ad : Nat → Nat} {N : Nat} {T : Nat → Nat × Nat} (l : Launch) {I : KI} {J : KJ} {Q : KQ} {h0 : Nat} {post : Int32 → KI → Prop} (hWF : WF Z N T Q) (z0 : OKr Z N T h0 (10, 0)) (hw : wp_X10_restore I Q h0 post) : Met l yX10_restore (.code yX10_restore cX10_restore 1 (some .int) :: BIG) ({ frames := 4, cells := 0, slots := 0, locals := 105 }) (Pr D D2 A ad N T I J Q [.ref (ad h0)]) (va_Qi (fun (r : Int32) (u : KS) => post r u.1 ∧ u.2.1 = J ∧ u.2.2 = Q ∧ WF Z N T u.2.2) (Bw D D2 ad N T) A) 0 0 A := by
  refine Met_GG (lv0 := [(0, .ref (ad h0))]) (by decide +kernel) [.ref (ad h0)] (Nat.le_of_ble_eq_true rfl) rfl ?_
  intro p e s m below meth c C hr
  have C : CX p s m [.ref (ad h0)].toArray meth c cX10_restore 1 RX10 A D D2 := C
  unfold wp_X10_restore at hw
  refine g_aload_n C dX10_restore_0 rfl 0 rfl ?_
  refine g_getI C dX10_restore_1 ft_338 z0 ?_
  refine g_if_ne (tgt := 10) C dX10_restore_4 (by decide) (fun c1 => ?_) (fun c1 => ?_)
  · have hw := hw.1 c1
    refine g_aload_n C dX10_restore_10 rfl 0 rfl ?_
    refine g_getQ C dX10_restore_11 ft_247 z0 (hWF.q z0 0 rfl) ?_
    have zz2 := hWF.r z0 0 rfl
    refine g_aload_n C dX10_restore_14 rfl 0 rfl ?_
    refine g_getQ C dX10_restore_15 ft_333 z0 (hWF.q z0 2 rfl) ?_
    have zz3 := hWF.r z0 2 rfl
    refine g_callVv (As := [.ref (ad (rq Q h0 2))]) C dX10_restore_18 ft_46 zz2 ft_294 ft_130 (met_X1_take l hWF zz2 zz3 hw) ⟨rfl, rfl, Nat.le_of_ble_eq_true rfl, Nat.le_of_ble_eq_true rfl⟩ ⟨Nat.zero_le _, Nat.zero_le _⟩ rfl rfl (Nat.le_of_ble_eq_true rfl) (fun I4 J4 Q4 hp => ?_)
    obtain ⟨hw, eJ, eQ, hWF⟩ := hp
    have eJ : J = J4 := Eq.symm eJ
    subst eJ
    have eQ : Q = Q4 := Eq.symm eQ
    subst eQ
    try dsimp only at hw hWF
    refine g_aload_n C dX10_restore_21 rfl 0 rfl ?_
    refine g_getQ C dX10_restore_22 ft_250 z0 (hWF.q z0 1 rfl) ?_
    have zz5 := hWF.r z0 1 rfl
    refine g_aload_n C dX10_restore_25 rfl 0 rfl ?_
    refine g_getQ C dX10_restore_26 ft_334 z0 (hWF.q z0 3 rfl) ?_
    have zz6 := hWF.r z0 3 rfl
    refine g_callVv (As := [.ref (ad (rq Q h0 3))]) C dX10_restore_29 ft_133 zz5 ft_336 ft_337 (met_X3_take l hWF zz5 zz6 hw) ⟨rfl, rfl, Nat.le_of_ble_eq_true rfl, Nat.le_of_ble_eq_true rfl⟩ ⟨Nat.zero_le _, Nat.zero_le _⟩ rfl rfl (Nat.le_of_ble_eq_true rfl) (fun I7 J7 Q7 hp => ?_)
    obtain ⟨hw, eJ, eQ, hWF⟩ := hp
    have eJ : J = J7 := Eq.symm eJ
    subst eJ
    have eQ : Q = Q7 := Eq.symm eQ
    subst eQ
    try dsimp only at hw hWF
    refine g_iconst (v := (1 : Int32)) C dX10_restore_32 (by decide) ?_
    exact g_iret C dX10_restore_33 hr ⟨hw, rfl, rfl, hWF⟩
  · have hw := hw.2 c1
    refine g_bipush (v := (-4 : Int32)) C dX10_restore_7 (by decide) ?_
    exact g_iret C dX10_restore_9 hr ⟨hw, rfl, rfl, hWF⟩
def wp_X10_isSheet  (x0 : Int32) (post : Int32 → Prop) : Prop := ((x0 < 0 → post (0 : Int32)) ∧ (¬ x0 < 0 → (((4 : Int32) ≤ x0 → post (0 : Int32)) ∧ (¬ (4 : Int32) ≤ x0 → post (1 : Int32)))))
set_option maxHeartbeats 4000000 in
set_option maxRecDepth 100000 in
theorem met_X10_isSheet {Z : Nat → Prop} {A : Nat → Prop} {D : va_G} {D2 : Nat → ClassId} {ad : Nat → Nat} {N : Nat} {T : Nat → Nat × Nat} (l : Launch) {I : KI} {J : KJ} {Q : KQ} {x0 : Int32} {post : Int32 → Prop} (hWF : WF Z N T Q)  (hw : wp_X10_isSheet x0 post) : Met l yX10_isSheet (.code yX10_isSheet cX10_isSheet 1 (some .boolean) :: BIG) ({ frames := 0, cells := 0, slots := 0, locals := 0 }) (Pr D D2 A ad N T I J Q [.int x0]) (va_Qi (fun (r : Int32) (u : KS) => post r ∧ u.1 = I ∧ u.2.1 = J ∧ u.2.2 = Q ∧ WF Z N T u.2.2) (Bw D D2 ad N T) A) 0 0 A := by
  refine Met_GG (lv0 := [(0, .int x0)]) (by decide +kernel) [.int x0] (Nat.le_of_ble_eq_true rfl) rfl ?_
  intro p e s m below meth c C hr
  have C : CX p s m [.int x0].toArray meth c cX10_isSheet 1 RX10 A D D2 := C
  unfold wp_X10_isSheet at hw
  refine g_iload_n C dX10_isSheet_0 rfl 0 rfl ?_
  refine g_if_lt (tgt := 13) C dX10_isSheet_1 (by decide) (fun c1 => ?_) (fun c1 => ?_)
  · have hw := hw.1 c1
    refine g_iconst (v := (0 : Int32)) C dX10_isSheet_13 (by decide) ?_
    exact g_zret C dX10_isSheet_14 hr rfl ⟨hw, rfl, rfl, rfl, hWF⟩
  · have hw := hw.2 c1
    refine g_iload_n C dX10_isSheet_4 rfl 0 rfl ?_
    refine g_iconst (v := (4 : Int32)) C dX10_isSheet_5 (by decide) ?_
    refine g_icmp_ge (tgt := 13) C dX10_isSheet_6 (by decide) (fun c2 => ?_) (fun c2 => ?_)
    · have hw := hw.1 c2
      refine g_iconst (v := (0 : Int32)) C dX10_isSheet_13 (by decide) ?_
      exact g_zret C dX10_isSheet_14 hr rfl ⟨hw, rfl, rfl, rfl, hWF⟩
    · have hw := hw.2 c2
      refine g_iconst (v := (1 : Int32)) C dX10_isSheet_9 (by decide) ?_
      refine g_goto C dX10_isSheet_10 (tgt := 14) (by decide) ?_
      exact g_zret C dX10_isSheet_14 hr rfl ⟨hw, rfl, rfl, rfl, hWF⟩
def wp_X10_isLane  (x0 : Int32) (post : Int32 → Prop) : Prop := ((x0 < 0 → post (0 : Int32)) ∧ (¬ x0 < 0 → (((4 : Int32) ≤ x0 → post (0 : Int32)) ∧ (¬ (4 : Int32) ≤ x0 → post (1 : Int32)))))
set_option maxHeartbeats 4000000 in
set_option maxRecDepth 100000 in
theorem met_X10_isLane {Z : Nat → Prop} {A : Nat → Prop} {D : va_G} {D2 : Nat → ClassId} {ad : Nat → Nat} {N : Nat} {T : Nat → Nat × Nat} (l : Launch) {I : KI} {J : KJ} {Q : KQ} {x0 : Int32} {post : Int32 → Prop} (hWF : WF Z N T Q)  (hw : wp_X10_isLane x0 post) : Met l yX10_isLane (.code yX10_isLane cX10_isLane 1 (some .boolean) :: BIG) ({ frames := 0, cells := 0, slots := 0, locals := 0 }) (Pr D D2 A ad N T I J Q [.int x0]) (va_Qi (fun (r : Int32) (u : KS) => post r ∧ u.1 = I ∧ u.2.1 = J ∧ u.2.2 = Q ∧ WF Z N T u.2.2) (Bw D D2 ad N T) A) 0 0 A := by
  refine Met_GG (lv0 := [(0, .int x0)]) (by decide +kernel) [.int x0] (Nat.le_of_ble_eq_true rfl) rfl ?_
  intro p e s m below meth c C hr
  have C : CX p s m [.int x0].toArray meth c cX10_isLane 1 RX10 A D D2 := C
  unfold wp_X10_isLane at hw
  refine g_iload_n C dX10_isLane_0 rfl 0 rfl ?_
  refine g_if_lt (tgt := 13) C dX10_isLane_1 (by decide) (fun c1 => ?_) (fun c1 => ?_)
  · have hw := hw.1 c1
    refine g_iconst (v := (0 : Int32)) C dX10_isLane_13 (by decide) ?_
    exact g_zret C dX10_isLane_14 hr rfl ⟨hw, rfl, rfl, rfl, hWF⟩
  · have hw := hw.2 c1
    refine g_iload_n C dX10_isLane_4 rfl 0 rfl ?_
    refine g_iconst (v := (4 : Int32)) C dX10_isLane_5 (by decide) ?_
    refine g_icmp_ge (tgt := 13) C dX10_isLane_6 (by decide) (fun c2 => ?_) (fun c2 => ?_)
    · have hw := hw.1 c2
      refine g_iconst (v := (0 : Int32)) C dX10_isLane_13 (by decide) ?_
      exact g_zret C dX10_isLane_14 hr rfl ⟨hw, rfl, rfl, rfl, hWF⟩
    · have hw := hw.2 c2
      refine g_iconst (v := (1 : Int32)) C dX10_isLane_9 (by decide) ?_
      refine g_goto C dX10_isLane_10 (tgt := 14) (by decide) ?_
      exact g_zret C dX10_isLane_14 hr rfl ⟨hw, rfl, rfl, rfl, hWF⟩
def wp_X10_refusal (I : KI) (Q : KQ) (h0 : Nat) (x1 : Int32) (x2 : Int32) (post : Int32 → Prop) : Prop := wp_X10_isSheet x1 (fun r1 => ((r1 = 0 → post (-1 : Int32)) ∧ (¬ r1 = 0 → wp_X10_isLane x2 (fun r3 => ((¬ r3 = 0 → (vp_in x1 4 ∧ wp_X6_isNothing I (rq Q (rq Q h0 10) x1.toNatClampNeg) (fun r7 => ((r7 = 0 → (vp_in x1 4 ∧ ((¬ (I (rq Q (rq Q h0 10) x1.toNatClampNeg) 1) = x2 → post (-12 : Int32)) ∧ ((I (rq Q (rq Q h0 10) x1.toNatClampNeg) 1) = x2 → post (0 : Int32))))) ∧ (¬ r7 = 0 → post (-11 : Int32)))))) ∧ (r3 = 0 → post (-1 : Int32)))))))
set_option maxHeartbeats 4000000 in
set_option maxRecDepth 100000 in
theorem met_X10_refusal {Z : Nat → Prop} {A : Nat → Prop} {D : va_G} {D2 : Nat → ClassId} {ad : Nat → Nat} {N : Nat} {T : Nat → Nat × Nat} (l : Launch) {I : KI} {J : KJ} {Q : KQ} {h0 : Nat} {x1 : Int32} {x2 : Int32} {post : Int32 → Prop} (hWF : WF Z N T Q) (z0 : OKr Z N T h0 (10, 0)) (hw : wp_X10_refusal I Q h0 x1 x2 post) : Met l yX10_refusal (.code yX10_refusal cX10_refusal 3 (some .int) :: BIG) ({ frames := 1, cells := 0, slots := 0, locals := 20 }) (Pr D D2 A ad N T I J Q [.ref (ad h0), .int x1, .int x2]) (va_Qi (fun (r : Int32) (u : KS) => post r ∧ u.1 = I ∧ u.2.1 = J ∧ u.2.2 = Q ∧ WF Z N T u.2.2) (Bw D D2 ad N T) A) 0 0 A := by
  refine Met_GG (lv0 := [(0, .ref (ad h0)), (1, .int x1), (2, .int x2)]) (by decide +kernel) [.ref (ad h0), .int x1, .int x2] (Nat.le_of_ble_eq_true rfl) rfl ?_
  intro p e s m below meth c C hr
  have C : CX p s m [.ref (ad h0), .int x1, .int x2].toArray meth c cX10_refusal 3 RX10 A D D2 := C
  unfold wp_X10_refusal at hw
  refine g_iload_n C dX10_refusal_0 rfl 1 rfl ?_
  refine g_callSi (As := [.int x1]) C dX10_refusal_1 ft_346 ft_347 (met_X10_isSheet l hWF  hw) ⟨rfl, rfl, Nat.le_of_ble_eq_true rfl, Nat.le_of_ble_eq_true rfl⟩ ⟨Nat.zero_le _, Nat.zero_le _⟩ rfl rfl (Nat.le_of_ble_eq_true rfl) (fun r1 I1 J1 Q1 hp => ?_)
  obtain ⟨hw, eI, eJ, eQ, hWF⟩ := hp
  have eI : I = I1 := Eq.symm eI
  subst eI
  have eJ : J = J1 := Eq.symm eJ
  subst eJ
  have eQ : Q = Q1 := Eq.symm eQ
  subst eQ
  try dsimp only at hw hWF
  refine g_if_eq (tgt := 14) C dX10_refusal_4 (by decide) (fun c2 => ?_) (fun c2 => ?_)
  · have hw := hw.1 c2
    refine g_iconst (v := (-1 : Int32)) C dX10_refusal_14 (by decide) ?_
    exact g_iret C dX10_refusal_15 hr ⟨hw, rfl, rfl, rfl, hWF⟩
  · have hw := hw.2 c2
    refine g_iload_n C dX10_refusal_7 rfl 2 rfl ?_
    refine g_callSi (As := [.int x2]) C dX10_refusal_8 ft_344 ft_345 (met_X10_isLane l hWF  hw) ⟨rfl, rfl, Nat.le_of_ble_eq_true rfl, Nat.le_of_ble_eq_true rfl⟩ ⟨Nat.zero_le _, Nat.zero_le _⟩ rfl rfl (Nat.le_of_ble_eq_true rfl) (fun r3 I3 J3 Q3 hp => ?_)
    obtain ⟨hw, eI, eJ, eQ, hWF⟩ := hp
    have eI : I = I3 := Eq.symm eI
    subst eI
    have eJ : J = J3 := Eq.symm eJ
    subst eJ
    have eQ : Q = Q3 := Eq.symm eQ
    subst eQ
    try dsimp only at hw hWF
    refine g_if_ne (tgt := 16) C dX10_refusal_11 (by decide) (fun c4 => ?_) (fun c4 => ?_)
    · have hw := hw.1 c4
      refine g_aload_n C dX10_refusal_16 rfl 0 rfl ?_
      refine g_getQ C dX10_refusal_17 ft_339 z0 (hWF.q z0 10 rfl) ?_
      have zz5 := hWF.r z0 10 rfl
      refine g_iload_n C dX10_refusal_20 rfl 1 rfl ?_
      have hrzz6 := rft_eR hw.1
      refine g_aaldR C dX10_refusal_21 zz5 hw.1 (hWF.q zz5 _ hrzz6) ?_
      have zz6 := hWF.r zz5 _ hrzz6
      have hw := hw.2
      refine g_callVi (As := []) C dX10_refusal_22 ft_343 zz6 ft_341 ft_342 (met_X6_isNothing l hWF zz6 hw) ⟨rfl, rfl, Nat.le_of_ble_eq_true rfl, Nat.le_of_ble_eq_true rfl⟩ ⟨Nat.zero_le _, Nat.zero_le _⟩ rfl rfl (Nat.le_of_ble_eq_true rfl) (fun r7 I7 J7 Q7 hp => ?_)
      obtain ⟨hw, eI, eJ, eQ, hWF⟩ := hp
      have eI : I = I7 := Eq.symm eI
      subst eI
      have eJ : J = J7 := Eq.symm eJ
      subst eJ
      have eQ : Q = Q7 := Eq.symm eQ
      subst eQ
      try dsimp only at hw hWF
      refine g_if_eq (tgt := 31) C dX10_refusal_25 (by decide) (fun c8 => ?_) (fun c8 => ?_)
      · have hw := hw.1 c8
        refine g_aload_n C dX10_refusal_31 rfl 0 rfl ?_
        refine g_getQ C dX10_refusal_32 ft_339 z0 (hWF.q z0 10 rfl) ?_
        have zz9 := hWF.r z0 10 rfl
        refine g_iload_n C dX10_refusal_35 rfl 1 rfl ?_
        have hrzz10 := rft_eR hw.1
        refine g_aaldR C dX10_refusal_36 zz9 hw.1 (hWF.q zz9 _ hrzz10) ?_
        have zz10 := hWF.r zz9 _ hrzz10
        have hw := hw.2
        refine g_getI C dX10_refusal_37 ft_340 zz10 ?_
        refine g_iload_n C dX10_refusal_40 rfl 2 rfl ?_
        refine g_icmp_ne (tgt := 48) C dX10_refusal_41 (by decide) (fun c11 => ?_) (fun c11 => ?_)
        · have hw := hw.1 c11
          refine g_bipush (v := (-12 : Int32)) C dX10_refusal_48 (by decide) ?_
          exact g_iret C dX10_refusal_50 hr ⟨hw, rfl, rfl, rfl, hWF⟩
        · have hw := hw.2 c11
          refine g_iconst (v := (0 : Int32)) C dX10_refusal_44 (by decide) ?_
          refine g_goto C dX10_refusal_45 (tgt := 50) (by decide) ?_
          exact g_iret C dX10_refusal_50 hr ⟨hw, rfl, rfl, rfl, hWF⟩
      · have hw := hw.2 c8
        refine g_bipush (v := (-11 : Int32)) C dX10_refusal_28 (by decide) ?_
        exact g_iret C dX10_refusal_30 hr ⟨hw, rfl, rfl, rfl, hWF⟩
    · have hw := hw.2 c4
      refine g_iconst (v := (-1 : Int32)) C dX10_refusal_14 (by decide) ?_
      exact g_iret C dX10_refusal_15 hr ⟨hw, rfl, rfl, rfl, hWF⟩
def wp_X10_sentBy_L15 (If_4 : KI) (Jf_4 : KJ) (Qf_4 : KQ) (f0_4 : Nat) (f2_4 : Nat) (f3_4 : Int32) (post : Int32 → KI → Prop) : Nat → Int32 → Prop
  | 0, _ => False
  | n15 + 1, x4_4 => (((If_4 (rq Qf_4 f0_4 0) 3) ≤ x4_4 → post (1 : Int32) If_4) ∧ (¬ (If_4 (rq Qf_4 f0_4 0) 3) ≤ x4_4 → (vp_in (f3_4 + x4_4) 24 ∧ ((¬ (lg_cmp (Jf_4 (rq Qf_4 f2_4 0) (f3_4 + x4_4).toNatClampNeg) (9 : Int64)) = 0 → wp_X5_only If_4 Qf_4 (rq Qf_4 f0_4 5) x4_4 (fun r10 => ((((1 : Int32) <<< (((Jf_4 (rq Qf_4 f2_4 0) (f3_4 + x4_4).toNatClampNeg).toInt32) &&& 31)) = r10 → wp_X10_sentBy_L15 If_4 Jf_4 Qf_4 f0_4 f2_4 f3_4 post n15 (x4_4 + (1 : Int32))) ∧ (¬ ((1 : Int32) <<< (((Jf_4 (rq Qf_4 f2_4 0) (f3_4 + x4_4).toNatClampNeg).toInt32) &&& 31)) = r10 → post (0 : Int32) If_4)))) ∧ ((lg_cmp (Jf_4 (rq Qf_4 f2_4 0) (f3_4 + x4_4).toNatClampNeg) (9 : Int64)) = 0 → wp_X5_only If_4 Qf_4 (rq Qf_4 f0_4 5) x4_4 (fun r13 => (((0 : Int32) = r13 → wp_X10_sentBy_L15 If_4 Jf_4 Qf_4 f0_4 f2_4 f3_4 post n15 (x4_4 + (1 : Int32))) ∧ (¬ (0 : Int32) = r13 → post (0 : Int32) If_4))))))))
def wp_X10_sentBy (I : KI) (J : KJ) (Q : KQ) (h0 : Nat) (x1 : Int32) (h2 : Nat) (x3 : Int32) (post : Int32 → KI → Prop) : Prop := wp_X5_prepare I Q (rq Q h0 5) (rq Q h0 0) x1 (fun I3 => (∃ q15, wp_X10_sentBy_L15 I3 J Q h0 h2 x3 post q15 (0 : Int32)))
set_option maxHeartbeats 4000000 in
set_option maxRecDepth 100000 in
theorem met_X10_sentBy {Z : Nat → Prop} {A : Nat → Prop} {D : va_G} {D2 : Nat → ClassId} {ad : Nat → Nat} {N : Nat} {T : Nat → Nat × Nat} (l : Launch) {I : KI} {J : KJ} {Q : KQ} {h0 : Nat} {x1 : Int32} {h2 : Nat} {x3 : Int32} {post : Int32 → KI → Prop} (hWF : WF Z N T Q) (z0 : OKr Z N T h0 (10, 0)) (z2 : OKr Z N T h2 (6, 0)) (hw : wp_X10_sentBy I J Q h0 x1 h2 x3 post) : Met l yX10_sentBy (.code yX10_sentBy cX10_sentBy 8 (some .boolean) :: BIG) ({ frames := 4, cells := 0, slots := 0, locals := 93 }) (Pr D D2 A ad N T I J Q [.ref (ad h0), .int x1, .ref (ad h2), .int x3]) (va_Qi (fun (r : Int32) (u : KS) => post r u.1 ∧ u.2.1 = J ∧ u.2.2 = Q ∧ WF Z N T u.2.2) (Bw D D2 ad N T) A) 0 0 A := by
  refine Met_GG (lv0 := [(0, .ref (ad h0)), (1, .int x1), (2, .ref (ad h2)), (3, .int x3)]) (by decide +kernel) [.ref (ad h0), .int x1, .ref (ad h2), .int x3] (Nat.le_of_ble_eq_true rfl) rfl ?_
  intro p e s m below meth c C hr
  have C : CX p s m [.ref (ad h0), .int x1, .ref (ad h2), .int x3].toArray meth c cX10_sentBy 8 RX10 A D D2 := C
  unfold wp_X10_sentBy at hw
  refine g_aload_n C dX10_sentBy_0 rfl 0 rfl ?_
  refine g_getQ C dX10_sentBy_1 ft_264 z0 (hWF.q z0 5 rfl) ?_
  have zz1 := hWF.r z0 5 rfl
  refine g_aload_n C dX10_sentBy_4 rfl 0 rfl ?_
  refine g_getQ C dX10_sentBy_5 ft_247 z0 (hWF.q z0 0 rfl) ?_
  have zz2 := hWF.r z0 0 rfl
  refine g_iload_n C dX10_sentBy_8 rfl 1 rfl ?_
  refine g_callVv (As := [.ref (ad (rq Q h0 0)), .int x1]) C dX10_sentBy_9 ft_37 zz1 ft_267 ft_166 (met_X5_prepare l hWF zz1 zz2 hw) ⟨rfl, rfl, Nat.le_of_ble_eq_true rfl, Nat.le_of_ble_eq_true rfl⟩ ⟨Nat.zero_le _, Nat.zero_le _⟩ rfl rfl (Nat.le_of_ble_eq_true rfl) (fun I3 J3 Q3 hp => ?_)
  obtain ⟨hw, eJ, eQ, hWF⟩ := hp
  have eJ : J = J3 := Eq.symm eJ
  subst eJ
  have eQ : Q = Q3 := Eq.symm eQ
  subst eQ
  try dsimp only at hw hWF
  refine g_iconst (v := (0 : Int32)) C dX10_sentBy_12 (by decide) ?_
  refine g_istore (lv' := [(4, .int (0 : Int32)), (0, .ref (ad h0)), (1, .int x1), (2, .ref (ad h2)), (3, .int x3)]) C dX10_sentBy_13 (by decide) rfl ?_
  have L15_u15 : ∀ (n15 : Nat) (x4_4 : Int32), wp_X10_sentBy_L15 I3 J Q h0 h2 x3 post n15 x4_4 → WF Z N T Q → GG p l e ({ frames := 4, cells := 0, slots := 0, locals := 93 }) s m [.ref (ad h0), .int x1, .ref (ad h2), .int x3].toArray below meth c 8 A D D2 0 0 (MQ below (va_Qi (fun (r : Int32) (u : KS) => post r u.1 ∧ u.2.1 = J ∧ u.2.2 = Q ∧ WF Z N T u.2.2) (Bw D D2 ad N T) A) [.ref (ad h0), .int x1, .ref (ad h2), .int x3].toArray s 0 0 A) ad N T I3 J Q 15 [(0, .ref (ad h0)), (2, .ref (ad h2)), (3, .int x3), (4, .int x4_4)] [] := by
    intro n15
    induction n15 with
    | zero => intro x4_4 hw; exact hw.elim
    | succ n15 ih_u15 =>
      intro x4_4 hw hWF
      unfold wp_X10_sentBy_L15 at hw
      refine g_iload C dX10_sentBy_15 3 rfl ?_
      refine g_aload_n C dX10_sentBy_17 rfl 0 rfl ?_
      refine g_getQ C dX10_sentBy_18 ft_247 z0 (hWF.q z0 0 rfl) ?_
      have zz17 := hWF.r z0 0 rfl
      refine g_getI C dX10_sentBy_21 ft_272 zz17 ?_
      refine g_icmp_ge (tgt := 80) C dX10_sentBy_24 (by decide) (fun c18 => ?_) (fun c18 => ?_)
      · have hw := hw.1 c18
        refine g_iconst (v := (1 : Int32)) C dX10_sentBy_80 (by decide) ?_
        exact g_zret C dX10_sentBy_81 hr rfl ⟨hw, rfl, rfl, hWF⟩
      · have hw := hw.2 c18
        refine g_aload_n C dX10_sentBy_27 rfl 1 rfl ?_
        refine g_getQ C dX10_sentBy_28 ft_348 z2 (hWF.q z2 0 rfl) ?_
        have zz19 := hWF.r z2 0 rfl
        refine g_iload_n C dX10_sentBy_31 rfl 2 rfl ?_
        refine g_iload C dX10_sentBy_32 3 rfl ?_
        refine g_iadd C dX10_sentBy_34 ?_
        refine g_lald C dX10_sentBy_35 zz19 hw.1 ?_
        have hw := hw.2
        refine g_lstore (lv' := [(5, .long (J (rq Q h2 0) (x3 + x4_4).toNatClampNeg)), (0, .ref (ad h0)), (2, .ref (ad h2)), (3, .int x3), (4, .int x4_4)]) C dX10_sentBy_36 (by decide) rfl ?_
        refine g_lload C dX10_sentBy_38 0 rfl ?_
        refine g_ldc2 C dX10_sentBy_40 ft_349 ?_
        refine g_lcmp C dX10_sentBy_43 ?_
        refine g_if_ne (tgt := 51) C dX10_sentBy_44 (by decide) (fun c20 => ?_) (fun c20 => ?_)
        · have hw := hw.1 c20
          refine g_iconst (v := (1 : Int32)) C dX10_sentBy_51 (by decide) ?_
          refine g_lload C dX10_sentBy_52 0 rfl ?_
          refine g_l2i C dX10_sentBy_54 ?_
          refine g_ishl C dX10_sentBy_55 ?_
          refine g_istore (lv' := [(7, .int ((1 : Int32) <<< (((J (rq Q h2 0) (x3 + x4_4).toNatClampNeg).toInt32) &&& 31))), (5, .long (J (rq Q h2 0) (x3 + x4_4).toNatClampNeg)), (0, .ref (ad h0)), (2, .ref (ad h2)), (3, .int x3), (4, .int x4_4)]) C dX10_sentBy_56 (by decide) rfl ?_
          refine g_iload C dX10_sentBy_58 0 rfl ?_
          refine g_aload_n C dX10_sentBy_60 rfl 2 rfl ?_
          refine g_getQ C dX10_sentBy_61 ft_264 z0 (hWF.q z0 5 rfl) ?_
          have zz21 := hWF.r z0 5 rfl
          refine g_iload C dX10_sentBy_64 5 rfl ?_
          refine g_callVi (As := [.int x4_4]) C dX10_sentBy_66 ft_37 zz21 ft_271 ft_164 (met_X5_only l hWF zz21 hw) ⟨rfl, rfl, Nat.le_of_ble_eq_true rfl, Nat.le_of_ble_eq_true rfl⟩ ⟨Nat.zero_le _, Nat.zero_le _⟩ rfl rfl (Nat.le_of_ble_eq_true rfl) (fun r22 I22 J22 Q22 hp => ?_)
          obtain ⟨hw, eI, eJ, eQ, hWF⟩ := hp
          have eI : I3 = I22 := Eq.symm eI
          subst eI
          have eJ : J = J22 := Eq.symm eJ
          subst eJ
          have eQ : Q = Q22 := Eq.symm eQ
          subst eQ
          try dsimp only at hw hWF
          refine g_icmp_eq (tgt := 74) C dX10_sentBy_69 (by decide) (fun c23 => ?_) (fun c23 => ?_)
          · have hw := hw.1 c23
            refine g_iinc (v := (x4_4 + (1 : Int32))) (lv' := [(4, .int (x4_4 + (1 : Int32))), (7, .int ((1 : Int32) <<< (((J (rq Q h2 0) (x3 + x4_4).toNatClampNeg).toInt32) &&& 31))), (5, .long (J (rq Q h2 0) (x3 + x4_4).toNatClampNeg)), (0, .ref (ad h0)), (2, .ref (ad h2)), (3, .int x3)]) C dX10_sentBy_74 (q := 5) rfl rfl (by decide) rfl ?_
            refine g_goto C dX10_sentBy_77 (tgt := 15) (by decide) ?_
            refine g_sub [3, 4, 5, 0] rfl ?_
            exact ih_u15 (x4_4 + (1 : Int32)) hw hWF
          · have hw := hw.2 c23
            refine g_iconst (v := (0 : Int32)) C dX10_sentBy_72 (by decide) ?_
            exact g_zret C dX10_sentBy_73 hr rfl ⟨hw, rfl, rfl, hWF⟩
        · have hw := hw.2 c20
          refine g_iconst (v := (0 : Int32)) C dX10_sentBy_47 (by decide) ?_
          refine g_goto C dX10_sentBy_48 (tgt := 56) (by decide) ?_
          refine g_istore (lv' := [(7, .int (0 : Int32)), (5, .long (J (rq Q h2 0) (x3 + x4_4).toNatClampNeg)), (0, .ref (ad h0)), (2, .ref (ad h2)), (3, .int x3), (4, .int x4_4)]) C dX10_sentBy_56 (by decide) rfl ?_
          refine g_iload C dX10_sentBy_58 0 rfl ?_
          refine g_aload_n C dX10_sentBy_60 rfl 2 rfl ?_
          refine g_getQ C dX10_sentBy_61 ft_264 z0 (hWF.q z0 5 rfl) ?_
          have zz24 := hWF.r z0 5 rfl
          refine g_iload C dX10_sentBy_64 5 rfl ?_
          refine g_callVi (As := [.int x4_4]) C dX10_sentBy_66 ft_37 zz24 ft_271 ft_164 (met_X5_only l hWF zz24 hw) ⟨rfl, rfl, Nat.le_of_ble_eq_true rfl, Nat.le_of_ble_eq_true rfl⟩ ⟨Nat.zero_le _, Nat.zero_le _⟩ rfl rfl (Nat.le_of_ble_eq_true rfl) (fun r25 I25 J25 Q25 hp => ?_)
          obtain ⟨hw, eI, eJ, eQ, hWF⟩ := hp
          have eI : I3 = I25 := Eq.symm eI
          subst eI
          have eJ : J = J25 := Eq.symm eJ
          subst eJ
          have eQ : Q = Q25 := Eq.symm eQ
          subst eQ
          try dsimp only at hw hWF
          refine g_icmp_eq (tgt := 74) C dX10_sentBy_69 (by decide) (fun c26 => ?_) (fun c26 => ?_)
          · have hw := hw.1 c26
            refine g_iinc (v := (x4_4 + (1 : Int32))) (lv' := [(4, .int (x4_4 + (1 : Int32))), (7, .int (0 : Int32)), (5, .long (J (rq Q h2 0) (x3 + x4_4).toNatClampNeg)), (0, .ref (ad h0)), (2, .ref (ad h2)), (3, .int x3)]) C dX10_sentBy_74 (q := 5) rfl rfl (by decide) rfl ?_
            refine g_goto C dX10_sentBy_77 (tgt := 15) (by decide) ?_
            refine g_sub [3, 4, 5, 0] rfl ?_
            exact ih_u15 (x4_4 + (1 : Int32)) hw hWF
          · have hw := hw.2 c26
            refine g_iconst (v := (0 : Int32)) C dX10_sentBy_72 (by decide) ?_
            exact g_zret C dX10_sentBy_73 hr rfl ⟨hw, rfl, rfl, hWF⟩
  obtain ⟨n_u15, hw⟩ := hw
  refine g_sub [1, 3, 4, 0] rfl ?_
  exact L15_u15 n_u15 (0 : Int32) hw hWF
