def wp_J9_floorMod_7cf53  (x0 : Int32) (x1 : Int32) (post : Int32 → Prop) : Prop := (¬ x1 = 0 ∧ ((0 ≤ (x0 ^^^ x1) → post (x0 - x0 / x1 * x1)) ∧ (¬ 0 ≤ (x0 ^^^ x1) → (((x0 - x0 / x1 * x1) = 0 → post (x0 - x0 / x1 * x1)) ∧ (¬ (x0 - x0 / x1 * x1) = 0 → post ((x0 - x0 / x1 * x1) + x1))))))
set_option maxHeartbeats 4000000 in
set_option maxRecDepth 100000 in
theorem met_J9_floorMod_7cf53 {Z : Nat → Prop} {A : Nat → Prop} {D : va_G} {D2 : Nat → ClassId} {ad : Nat → Nat} {N : Nat} {T : Nat → Nat × Nat} (l : Launch) {I : KI} {J : KJ} {Q : KQ} {x0 : Int32} {x1 : Int32} {post : Int32 → Prop} (hWF : WF Z N T Q)  (hw : wp_J9_floorMod_7cf53 x0 x1 post) : Met l yJ9_floorMod_7cf53 (.code yJ9_floorMod_7cf53 cJ9_floorMod_7cf53 3 (some .int) :: BIG) ({ frames := 0, cells := 0, slots := 0, locals := 0 }) (Pr D D2 A ad N T I J Q [.int x0, .int x1]) (va_Qi (fun (r : Int32) (u : KS) => post r ∧ u.1 = I ∧ u.2.1 = J ∧ u.2.2 = Q ∧ WF Z N T u.2.2) (Bw D D2 ad N T) A) 0 0 A := by
  refine Met_GG (lv0 := [(0, .int x0), (1, .int x1)]) (by decide +kernel) [.int x0, .int x1] (Nat.le_of_ble_eq_true rfl) rfl ?_
  intro p e s m below meth c C hr
  have C : CX p s m [.int x0, .int x1].toArray meth c cJ9_floorMod_7cf53 3 RJ9 A D D2 := C
  unfold wp_J9_floorMod_7cf53 at hw
  refine g_iload_n C dJ9_floorMod_7cf53_0 rfl 0 rfl ?_
  refine g_iload_n C dJ9_floorMod_7cf53_1 rfl 1 rfl ?_
  refine g_irem C dJ9_floorMod_7cf53_2 hw.1 ?_
  have hw := hw.2
  refine g_istore_n (lv' := [(2, .int (x0 - x0 / x1 * x1)), (0, .int x0), (1, .int x1)]) C dJ9_floorMod_7cf53_3 rfl (by decide) rfl ?_
  refine g_iload_n C dJ9_floorMod_7cf53_4 rfl 1 rfl ?_
  refine g_iload_n C dJ9_floorMod_7cf53_5 rfl 2 rfl ?_
  refine g_ixor C dJ9_floorMod_7cf53_6 ?_
  refine g_if_ge (tgt := 18) C dJ9_floorMod_7cf53_7 (by decide) (fun c1 => ?_) (fun c1 => ?_)
  · have hw := hw.1 c1
    refine g_iload_n C dJ9_floorMod_7cf53_18 rfl 0 rfl ?_
    exact g_iret C dJ9_floorMod_7cf53_19 hr ⟨hw, rfl, rfl, rfl, hWF⟩
  · have hw := hw.2 c1
    refine g_iload_n C dJ9_floorMod_7cf53_10 rfl 0 rfl ?_
    refine g_if_eq (tgt := 18) C dJ9_floorMod_7cf53_11 (by decide) (fun c2 => ?_) (fun c2 => ?_)
    · have hw := hw.1 c2
      refine g_iload_n C dJ9_floorMod_7cf53_18 rfl 0 rfl ?_
      exact g_iret C dJ9_floorMod_7cf53_19 hr ⟨hw, rfl, rfl, rfl, hWF⟩
    · have hw := hw.2 c2
      refine g_iload_n C dJ9_floorMod_7cf53_14 rfl 0 rfl ?_
      refine g_iload_n C dJ9_floorMod_7cf53_15 rfl 2 rfl ?_
      refine g_iadd C dJ9_floorMod_7cf53_16 ?_
      exact g_iret C dJ9_floorMod_7cf53_17 hr ⟨hw, rfl, rfl, rfl, hWF⟩
def wp_X10_leftOver  (x0 : Int32) (x1 : Int32) (post : Int32 → Prop) : Prop := (((1 : Int32) ≤ x1 → wp_J9_floorMod_7cf53 x0 x1 (fun r2 => post r2)) ∧ (¬ (1 : Int32) ≤ x1 → post (0 : Int32)))
set_option maxHeartbeats 4000000 in
set_option maxRecDepth 100000 in
theorem met_X10_leftOver {Z : Nat → Prop} {A : Nat → Prop} {D : va_G} {D2 : Nat → ClassId} {ad : Nat → Nat} {N : Nat} {T : Nat → Nat × Nat} (l : Launch) {I : KI} {J : KJ} {Q : KQ} {x0 : Int32} {x1 : Int32} {post : Int32 → Prop} (hWF : WF Z N T Q)  (hw : wp_X10_leftOver x0 x1 post) : Met l yX10_leftOver (.code yX10_leftOver cX10_leftOver 2 (some .int) :: BIG) ({ frames := 1, cells := 0, slots := 0, locals := 22 }) (Pr D D2 A ad N T I J Q [.int x0, .int x1]) (va_Qi (fun (r : Int32) (u : KS) => post r ∧ u.1 = I ∧ u.2.1 = J ∧ u.2.2 = Q ∧ WF Z N T u.2.2) (Bw D D2 ad N T) A) 0 0 A := by
  refine Met_GG (lv0 := [(0, .int x0), (1, .int x1)]) (by decide +kernel) [.int x0, .int x1] (Nat.le_of_ble_eq_true rfl) rfl ?_
  intro p e s m below meth c C hr
  have C : CX p s m [.int x0, .int x1].toArray meth c cX10_leftOver 2 RX10 A D D2 := C
  unfold wp_X10_leftOver at hw
  refine g_iload_n C dX10_leftOver_0 rfl 1 rfl ?_
  refine g_iconst (v := (1 : Int32)) C dX10_leftOver_1 (by decide) ?_
  refine g_icmp_ge (tgt := 9) C dX10_leftOver_2 (by decide) (fun c1 => ?_) (fun c1 => ?_)
  · have hw := hw.1 c1
    refine g_iload_n C dX10_leftOver_9 rfl 0 rfl ?_
    refine g_iload_n C dX10_leftOver_10 rfl 1 rfl ?_
    refine g_callSi (As := [.int x0, .int x1]) C dX10_leftOver_11 ft_0 ft_1 (met_J9_floorMod_7cf53 l hWF  hw) ⟨rfl, rfl, Nat.le_of_ble_eq_true rfl, Nat.le_of_ble_eq_true rfl⟩ ⟨Nat.zero_le _, Nat.zero_le _⟩ rfl rfl (Nat.le_of_ble_eq_true rfl) (fun r2 I2 J2 Q2 hp => ?_)
    obtain ⟨hw, eI, eJ, eQ, hWF⟩ := hp
    have eI : I = I2 := Eq.symm eI
    subst eI
    have eJ : J = J2 := Eq.symm eJ
    subst eJ
    have eQ : Q = Q2 := Eq.symm eQ
    subst eQ
    try dsimp only at hw hWF
    exact g_iret C dX10_leftOver_14 hr ⟨hw, rfl, rfl, rfl, hWF⟩
  · have hw := hw.2 c1
    refine g_iconst (v := (0 : Int32)) C dX10_leftOver_5 (by decide) ?_
    refine g_goto C dX10_leftOver_6 (tgt := 14) (by decide) ?_
    exact g_iret C dX10_leftOver_14 hr ⟨hw, rfl, rfl, rfl, hWF⟩
def wp_X4_of (I : KI) (Q : KQ) (h0 : Nat) (x1 : Int32) (x2 : Int32) (post : Int32 → Prop) : Prop := ((((x1 * (6 : Int32)) + x2) < 0 → post (0 : Int32)) ∧ (¬ ((x1 * (6 : Int32)) + x2) < 0 → (((48 : Int32) ≤ ((x1 * (6 : Int32)) + x2) → post (0 : Int32)) ∧ (¬ (48 : Int32) ≤ ((x1 * (6 : Int32)) + x2) → (vp_in ((x1 * (6 : Int32)) + x2) 48 ∧ post (I (rq Q h0 0) ((x1 * (6 : Int32)) + x2).toNatClampNeg))))))
set_option maxHeartbeats 4000000 in
set_option maxRecDepth 100000 in
theorem met_X4_of {Z : Nat → Prop} {A : Nat → Prop} {D : va_G} {D2 : Nat → ClassId} {ad : Nat → Nat} {N : Nat} {T : Nat → Nat × Nat} (l : Launch) {I : KI} {J : KJ} {Q : KQ} {h0 : Nat} {x1 : Int32} {x2 : Int32} {post : Int32 → Prop} (hWF : WF Z N T Q) (z0 : OKr Z N T h0 (4, 0)) (hw : wp_X4_of I Q h0 x1 x2 post) : Met l yX4_of (.code yX4_of cX4_of 4 (some .int) :: BIG) ({ frames := 0, cells := 0, slots := 0, locals := 0 }) (Pr D D2 A ad N T I J Q [.ref (ad h0), .int x1, .int x2]) (va_Qi (fun (r : Int32) (u : KS) => post r ∧ u.1 = I ∧ u.2.1 = J ∧ u.2.2 = Q ∧ WF Z N T u.2.2) (Bw D D2 ad N T) A) 0 0 A := by
  refine Met_GG (lv0 := [(0, .ref (ad h0)), (1, .int x1), (2, .int x2)]) (by decide +kernel) [.ref (ad h0), .int x1, .int x2] (Nat.le_of_ble_eq_true rfl) rfl ?_
  intro p e s m below meth c C hr
  have C : CX p s m [.ref (ad h0), .int x1, .int x2].toArray meth c cX4_of 4 RX4 A D D2 := C
  unfold wp_X4_of at hw
  refine g_iload_n C dX4_of_0 rfl 1 rfl ?_
  refine g_bipush (v := (6 : Int32)) C dX4_of_1 (by decide) ?_
  refine g_imul C dX4_of_3 ?_
  refine g_iload_n C dX4_of_4 rfl 2 rfl ?_
  refine g_iadd C dX4_of_5 ?_
  refine g_istore_n (lv' := [(3, .int ((x1 * (6 : Int32)) + x2)), (0, .ref (ad h0)), (1, .int x1), (2, .int x2)]) C dX4_of_6 rfl (by decide) rfl ?_
  refine g_iload_n C dX4_of_7 rfl 0 rfl ?_
  refine g_if_lt (tgt := 29) C dX4_of_8 (by decide) (fun c1 => ?_) (fun c1 => ?_)
  · have hw := hw.1 c1
    refine g_iconst (v := (0 : Int32)) C dX4_of_29 (by decide) ?_
    exact g_iret C dX4_of_30 hr ⟨hw, rfl, rfl, rfl, hWF⟩
  · have hw := hw.2 c1
    refine g_iload_n C dX4_of_11 rfl 0 rfl ?_
    refine g_aload_n C dX4_of_12 rfl 1 rfl ?_
    refine g_getQ C dX4_of_13 ft_2 z0 (hWF.q z0 0 rfl) ?_
    have zz2 := hWF.r z0 0 rfl
    refine g_alen (v := (48 : Int32)) C dX4_of_16 0 zz2 (by decide) rfl rfl ?_
    refine g_icmp_ge (tgt := 29) C dX4_of_17 (by decide) (fun c3 => ?_) (fun c3 => ?_)
    · have hw := hw.1 c3
      refine g_iconst (v := (0 : Int32)) C dX4_of_29 (by decide) ?_
      exact g_iret C dX4_of_30 hr ⟨hw, rfl, rfl, rfl, hWF⟩
    · have hw := hw.2 c3
      refine g_aload_n C dX4_of_20 rfl 1 rfl ?_
      refine g_getQ C dX4_of_21 ft_2 z0 (hWF.q z0 0 rfl) ?_
      have zz4 := hWF.r z0 0 rfl
      refine g_iload_n C dX4_of_24 rfl 0 rfl ?_
      refine g_iald C dX4_of_25 zz4 hw.1 ?_
      have hw := hw.2
      refine g_goto C dX4_of_26 (tgt := 30) (by decide) ?_
      exact g_iret C dX4_of_30 hr ⟨hw, rfl, rfl, rfl, hWF⟩
def wp_X1_neighbours (I : KI) (Q : KQ) (h0 : Nat) (x1 : Int32) (x2 : Int32) (post : Int32 → Prop) : Prop := (((1 : Int32) ≤ (I h0 6) → (¬ (I h0 6) = 0 ∧ wp_X10_leftOver (x1 / (I h0 6)) (I (rq Q h0 0) 1) (fun r4 => wp_X4_of I Q (rq Q h0 0) r4 x2 (fun r5 => post r5)))) ∧ (¬ (1 : Int32) ≤ (I h0 6) → wp_X10_leftOver (0 : Int32) (I (rq Q h0 0) 1) (fun r8 => wp_X4_of I Q (rq Q h0 0) r8 x2 (fun r9 => post r9))))
set_option maxHeartbeats 4000000 in
set_option maxRecDepth 100000 in
theorem met_X1_neighbours {Z : Nat → Prop} {A : Nat → Prop} {D : va_G} {D2 : Nat → ClassId} {ad : Nat → Nat} {N : Nat} {T : Nat → Nat × Nat} (l : Launch) {I : KI} {J : KJ} {Q : KQ} {h0 : Nat} {x1 : Int32} {x2 : Int32} {post : Int32 → Prop} (hWF : WF Z N T Q) (z0 : OKr Z N T h0 (1, 0)) (hw : wp_X1_neighbours I Q h0 x1 x2 post) : Met l yX1_neighbours (.code yX1_neighbours cX1_neighbours 4 (some .int) :: BIG) ({ frames := 2, cells := 0, slots := 0, locals := 43 }) (Pr D D2 A ad N T I J Q [.ref (ad h0), .int x1, .int x2]) (va_Qi (fun (r : Int32) (u : KS) => post r ∧ u.1 = I ∧ u.2.1 = J ∧ u.2.2 = Q ∧ WF Z N T u.2.2) (Bw D D2 ad N T) A) 0 0 A := by
  refine Met_GG (lv0 := [(0, .ref (ad h0)), (1, .int x1), (2, .int x2)]) (by decide +kernel) [.ref (ad h0), .int x1, .int x2] (Nat.le_of_ble_eq_true rfl) rfl ?_
  intro p e s m below meth c C hr
  have C : CX p s m [.ref (ad h0), .int x1, .int x2].toArray meth c cX1_neighbours 4 RX1 A D D2 := C
  unfold wp_X1_neighbours at hw
  refine g_aload_n C dX1_neighbours_0 rfl 0 rfl ?_
  refine g_getI C dX1_neighbours_1 ft_4 z0 ?_
  refine g_iconst (v := (1 : Int32)) C dX1_neighbours_4 (by decide) ?_
  refine g_icmp_ge (tgt := 12) C dX1_neighbours_5 (by decide) (fun c1 => ?_) (fun c1 => ?_)
  · have hw := hw.1 c1
    refine g_iload_n C dX1_neighbours_12 rfl 1 rfl ?_
    refine g_aload_n C dX1_neighbours_13 rfl 0 rfl ?_
    refine g_getI C dX1_neighbours_14 ft_4 z0 ?_
    refine g_idiv C dX1_neighbours_17 hw.1 ?_
    have hw := hw.2
    refine g_istore_n (lv' := [(3, .int (x1 / (I h0 6))), (0, .ref (ad h0)), (1, .int x1), (2, .int x2)]) C dX1_neighbours_18 rfl (by decide) rfl ?_
    refine g_aload_n C dX1_neighbours_19 rfl 1 rfl ?_
    refine g_getQ C dX1_neighbours_20 ft_6 z0 (hWF.q z0 0 rfl) ?_
    have zz2 := hWF.r z0 0 rfl
    refine g_iload_n C dX1_neighbours_23 rfl 0 rfl ?_
    refine g_aload_n C dX1_neighbours_24 rfl 1 rfl ?_
    refine g_getQ C dX1_neighbours_25 ft_6 z0 (hWF.q z0 0 rfl) ?_
    have zz3 := hWF.r z0 0 rfl
    refine g_getI C dX1_neighbours_28 ft_7 zz3 ?_
    refine g_callSNi (As := [.int (x1 / (I h0 6)), .int (I (rq Q h0 0) 1)]) C dX1_neighbours_31 ft_11 ft_12 (met_X10_leftOver l hWF  hw) ⟨rfl, rfl, Nat.le_of_ble_eq_true rfl, Nat.le_of_ble_eq_true rfl⟩ ⟨Nat.zero_le _, Nat.zero_le _⟩ rfl rfl (Nat.le_of_ble_eq_true rfl) (fun r4 I4 J4 Q4 hp => ?_)
    obtain ⟨hw, eI, eJ, eQ, hWF⟩ := hp
    have eI : I = I4 := Eq.symm eI
    subst eI
    have eJ : J = J4 := Eq.symm eJ
    subst eJ
    have eQ : Q = Q4 := Eq.symm eQ
    subst eQ
    try dsimp only at hw hWF
    refine g_iload_n C dX1_neighbours_34 rfl 3 rfl ?_
    refine g_callVi (As := [.int r4, .int x2]) C dX1_neighbours_35 ft_10 zz2 ft_8 ft_9 (met_X4_of l hWF zz2 hw) ⟨rfl, rfl, Nat.le_of_ble_eq_true rfl, Nat.le_of_ble_eq_true rfl⟩ ⟨Nat.zero_le _, Nat.zero_le _⟩ rfl rfl (Nat.le_of_ble_eq_true rfl) (fun r5 I5 J5 Q5 hp => ?_)
    obtain ⟨hw, eI, eJ, eQ, hWF⟩ := hp
    have eI : I = I5 := Eq.symm eI
    subst eI
    have eJ : J = J5 := Eq.symm eJ
    subst eJ
    have eQ : Q = Q5 := Eq.symm eQ
    subst eQ
    try dsimp only at hw hWF
    exact g_iret C dX1_neighbours_38 hr ⟨hw, rfl, rfl, rfl, hWF⟩
  · have hw := hw.2 c1
    refine g_iconst (v := (0 : Int32)) C dX1_neighbours_8 (by decide) ?_
    refine g_goto C dX1_neighbours_9 (tgt := 18) (by decide) ?_
    refine g_istore_n (lv' := [(3, .int (0 : Int32)), (0, .ref (ad h0)), (1, .int x1), (2, .int x2)]) C dX1_neighbours_18 rfl (by decide) rfl ?_
    refine g_aload_n C dX1_neighbours_19 rfl 1 rfl ?_
    refine g_getQ C dX1_neighbours_20 ft_6 z0 (hWF.q z0 0 rfl) ?_
    have zz6 := hWF.r z0 0 rfl
    refine g_iload_n C dX1_neighbours_23 rfl 0 rfl ?_
    refine g_aload_n C dX1_neighbours_24 rfl 1 rfl ?_
    refine g_getQ C dX1_neighbours_25 ft_6 z0 (hWF.q z0 0 rfl) ?_
    have zz7 := hWF.r z0 0 rfl
    refine g_getI C dX1_neighbours_28 ft_7 zz7 ?_
    refine g_callSNi (As := [.int (0 : Int32), .int (I (rq Q h0 0) 1)]) C dX1_neighbours_31 ft_11 ft_12 (met_X10_leftOver l hWF  hw) ⟨rfl, rfl, Nat.le_of_ble_eq_true rfl, Nat.le_of_ble_eq_true rfl⟩ ⟨Nat.zero_le _, Nat.zero_le _⟩ rfl rfl (Nat.le_of_ble_eq_true rfl) (fun r8 I8 J8 Q8 hp => ?_)
    obtain ⟨hw, eI, eJ, eQ, hWF⟩ := hp
    have eI : I = I8 := Eq.symm eI
    subst eI
    have eJ : J = J8 := Eq.symm eJ
    subst eJ
    have eQ : Q = Q8 := Eq.symm eQ
    subst eQ
    try dsimp only at hw hWF
    refine g_iload_n C dX1_neighbours_34 rfl 3 rfl ?_
    refine g_callVi (As := [.int r8, .int x2]) C dX1_neighbours_35 ft_10 zz6 ft_8 ft_9 (met_X4_of l hWF zz6 hw) ⟨rfl, rfl, Nat.le_of_ble_eq_true rfl, Nat.le_of_ble_eq_true rfl⟩ ⟨Nat.zero_le _, Nat.zero_le _⟩ rfl rfl (Nat.le_of_ble_eq_true rfl) (fun r9 I9 J9 Q9 hp => ?_)
    obtain ⟨hw, eI, eJ, eQ, hWF⟩ := hp
    have eI : I = I9 := Eq.symm eI
    subst eI
    have eJ : J = J9 := Eq.symm eJ
    subst eJ
    have eQ : Q = Q9 := Eq.symm eQ
    subst eQ
    try dsimp only at hw hWF
    exact g_iret C dX1_neighbours_38 hr ⟨hw, rfl, rfl, rfl, hWF⟩
def wp_X7_take (I : KI) (Q : KQ) (h0 : Nat) (h1 : Nat) (post : KI → Prop) : Prop := post (cpi I (rq Q h1 0) (rq Q h0 0) (0 : Int32).toNatClampNeg (0 : Int32).toNatClampNeg (8 : Int32).toNatClampNeg)
set_option maxHeartbeats 4000000 in
set_option maxRecDepth 100000 in
theorem met_X7_take {Z : Nat → Prop} {A : Nat → Prop} {D : va_G} {D2 : Nat → ClassId} {ad : Nat → Nat} {N : Nat} {T : Nat → Nat × Nat} (l : Launch) {I : KI} {J : KJ} {Q : KQ} {h0 : Nat} {h1 : Nat} {post : KI → Prop} (hWF : WF Z N T Q) (z0 : OKr Z N T h0 (7, 0)) (z1 : OKr Z N T h1 (7, 0)) (hw : wp_X7_take I Q h0 h1 post) : Met l yX7_take (.code yX7_take cX7_take 2 none :: BIG) ({ frames := 1, cells := 0, slots := 0, locals := 40 }) (Pr D D2 A ad N T I J Q [.ref (ad h0), .ref (ad h1)]) (va_Qv (fun (u : KS) => post u.1 ∧ u.2.1 = J ∧ u.2.2 = Q ∧ WF Z N T u.2.2) (Bw D D2 ad N T) A) 0 0 A := by
  refine Met_GG (lv0 := [(0, .ref (ad h0)), (1, .ref (ad h1))]) (by decide +kernel) [.ref (ad h0), .ref (ad h1)] (Nat.le_of_ble_eq_true rfl) rfl ?_
  intro p e s m below meth c C hr
  have C : CX p s m [.ref (ad h0), .ref (ad h1)].toArray meth c cX7_take 2 RX7 A D D2 := C
  unfold wp_X7_take at hw
  refine g_aload_n C dX7_take_0 rfl 1 rfl ?_
  refine g_getQ C dX7_take_1 ft_13 z1 (hWF.q z1 0 rfl) ?_
  have zz1 := hWF.r z1 0 rfl
  refine g_iconst (v := (0 : Int32)) C dX7_take_4 (by decide) ?_
  refine g_aload_n C dX7_take_5 rfl 0 rfl ?_
  refine g_getQ C dX7_take_6 ft_13 z0 (hWF.q z0 0 rfl) ?_
  have zz2 := hWF.r z0 0 rfl
  refine g_iconst (v := (0 : Int32)) C dX7_take_9 (by decide) ?_
  refine g_bipush (v := (8 : Int32)) C dX7_take_10 (by decide) ?_
  refine g_copyI C dX7_take_12 ft_15 zz1 zz2 (by decide +kernel) (by decide +kernel) (by decide +kernel) (by decide +kernel) (by decide +kernel) (by decide) (by decide +kernel) ?_
  exact g_vret C dX7_take_15 hr ⟨hw, rfl, rfl, hWF⟩
def wp_X7_rank_L4 (If_1 : KI) (Qf_1 : KQ) (f0_1 : Nat) (post : Int32 → Prop) : Nat → Int32 → Int32 → Prop
  | 0, _, _ => False
  | n4 + 1, x1_1, x2_1 => (((8 : Int32) ≤ x2_1 → post x1_1) ∧ (¬ (8 : Int32) ≤ x2_1 → (vp_in x2_1 8 ∧ ((¬ (If_1 (rq Qf_1 f0_1 0) x2_1.toNatClampNeg) = 0 → wp_X7_rank_L4 If_1 Qf_1 f0_1 post n4 (x1_1 + (1 : Int32)) (x2_1 + (1 : Int32))) ∧ ((If_1 (rq Qf_1 f0_1 0) x2_1.toNatClampNeg) = 0 → wp_X7_rank_L4 If_1 Qf_1 f0_1 post n4 (x1_1 + (0 : Int32)) (x2_1 + (1 : Int32)))))))
def wp_X7_rank (I : KI) (Q : KQ) (h0 : Nat) (post : Int32 → Prop) : Prop := (∃ q4, wp_X7_rank_L4 I Q h0 post q4 (0 : Int32) (0 : Int32))
set_option maxHeartbeats 4000000 in
set_option maxRecDepth 100000 in
theorem met_X7_rank {Z : Nat → Prop} {A : Nat → Prop} {D : va_G} {D2 : Nat → ClassId} {ad : Nat → Nat} {N : Nat} {T : Nat → Nat × Nat} (l : Launch) {I : KI} {J : KJ} {Q : KQ} {h0 : Nat} {post : Int32 → Prop} (hWF : WF Z N T Q) (z0 : OKr Z N T h0 (7, 0)) (hw : wp_X7_rank I Q h0 post) : Met l yX7_rank (.code yX7_rank cX7_rank 3 (some .int) :: BIG) ({ frames := 0, cells := 0, slots := 0, locals := 0 }) (Pr D D2 A ad N T I J Q [.ref (ad h0)]) (va_Qi (fun (r : Int32) (u : KS) => post r ∧ u.1 = I ∧ u.2.1 = J ∧ u.2.2 = Q ∧ WF Z N T u.2.2) (Bw D D2 ad N T) A) 0 0 A := by
  refine Met_GG (lv0 := [(0, .ref (ad h0))]) (by decide +kernel) [.ref (ad h0)] (Nat.le_of_ble_eq_true rfl) rfl ?_
  intro p e s m below meth c C hr
  have C : CX p s m [.ref (ad h0)].toArray meth c cX7_rank 3 RX7 A D D2 := C
  unfold wp_X7_rank at hw
  refine g_iconst (v := (0 : Int32)) C dX7_rank_0 (by decide) ?_
  refine g_istore_n (lv' := [(1, .int (0 : Int32)), (0, .ref (ad h0))]) C dX7_rank_1 rfl (by decide) rfl ?_
  refine g_iconst (v := (0 : Int32)) C dX7_rank_2 (by decide) ?_
  refine g_istore_n (lv' := [(2, .int (0 : Int32)), (1, .int (0 : Int32)), (0, .ref (ad h0))]) C dX7_rank_3 rfl (by decide) rfl ?_
  have L4_u5 : ∀ (n4 : Nat) (x1_1 : Int32) (x2_1 : Int32), wp_X7_rank_L4 I Q h0 post n4 x1_1 x2_1 → WF Z N T Q → GG p l e ({ frames := 0, cells := 0, slots := 0, locals := 0 }) s m [.ref (ad h0)].toArray below meth c 3 A D D2 0 0 (MQ below (va_Qi (fun (r : Int32) (u : KS) => post r ∧ u.1 = I ∧ u.2.1 = J ∧ u.2.2 = Q ∧ WF Z N T u.2.2) (Bw D D2 ad N T) A) [.ref (ad h0)].toArray s 0 0 A) ad N T I J Q 4 [(0, .ref (ad h0)), (1, .int x1_1), (2, .int x2_1)] [] := by
    intro n4
    induction n4 with
    | zero => intro x1_1 x2_1 hw; exact hw.elim
    | succ n4 ih_u5 =>
      intro x1_1 x2_1 hw hWF
      unfold wp_X7_rank_L4 at hw
      refine g_iload_n C dX7_rank_4 rfl 2 rfl ?_
      refine g_bipush (v := (8 : Int32)) C dX7_rank_5 (by decide) ?_
      refine g_icmp_ge (tgt := 33) C dX7_rank_7 (by decide) (fun c7 => ?_) (fun c7 => ?_)
      · have hw := hw.1 c7
        refine g_iload_n C dX7_rank_33 rfl 1 rfl ?_
        exact g_iret C dX7_rank_34 hr ⟨hw, rfl, rfl, rfl, hWF⟩
      · have hw := hw.2 c7
        refine g_iload_n C dX7_rank_10 rfl 1 rfl ?_
        refine g_aload_n C dX7_rank_11 rfl 0 rfl ?_
        refine g_getQ C dX7_rank_12 ft_13 z0 (hWF.q z0 0 rfl) ?_
        have zz8 := hWF.r z0 0 rfl
        refine g_iload_n C dX7_rank_15 rfl 2 rfl ?_
        refine g_iald C dX7_rank_16 zz8 hw.1 ?_
        have hw := hw.2
        refine g_if_ne (tgt := 24) C dX7_rank_17 (by decide) (fun c9 => ?_) (fun c9 => ?_)
        · have hw := hw.1 c9
          refine g_iconst (v := (1 : Int32)) C dX7_rank_24 (by decide) ?_
          refine g_iadd C dX7_rank_25 ?_
          refine g_istore_n (lv' := [(1, .int (x1_1 + (1 : Int32))), (0, .ref (ad h0)), (2, .int x2_1)]) C dX7_rank_26 rfl (by decide) rfl ?_
          refine g_iinc (v := (x2_1 + (1 : Int32))) (lv' := [(2, .int (x2_1 + (1 : Int32))), (1, .int (x1_1 + (1 : Int32))), (0, .ref (ad h0))]) C dX7_rank_27 (q := 2) rfl rfl (by decide) rfl ?_
          refine g_goto C dX7_rank_30 (tgt := 4) (by decide) ?_
          refine g_sub [2, 1, 0] rfl ?_
          exact ih_u5 (x1_1 + (1 : Int32)) (x2_1 + (1 : Int32)) hw hWF
        · have hw := hw.2 c9
          refine g_iconst (v := (0 : Int32)) C dX7_rank_20 (by decide) ?_
          refine g_goto C dX7_rank_21 (tgt := 25) (by decide) ?_
          refine g_iadd C dX7_rank_25 ?_
          refine g_istore_n (lv' := [(1, .int (x1_1 + (0 : Int32))), (0, .ref (ad h0)), (2, .int x2_1)]) C dX7_rank_26 rfl (by decide) rfl ?_
          refine g_iinc (v := (x2_1 + (1 : Int32))) (lv' := [(2, .int (x2_1 + (1 : Int32))), (1, .int (x1_1 + (0 : Int32))), (0, .ref (ad h0))]) C dX7_rank_27 (q := 2) rfl rfl (by decide) rfl ?_
          refine g_goto C dX7_rank_30 (tgt := 4) (by decide) ?_
          refine g_sub [2, 1, 0] rfl ?_
          exact ih_u5 (x1_1 + (0 : Int32)) (x2_1 + (1 : Int32)) hw hWF
  obtain ⟨n_u5, hw⟩ := hw
  refine g_sub [2, 1, 0] rfl ?_
  exact L4_u5 n_u5 (0 : Int32) (0 : Int32) hw hWF
def wp_X10_has  (x0 : Int32) (x1 : Int32) (post : Int32 → Prop) : Prop := ((¬ ((x0 >>> (x1 &&& 31)) &&& (1 : Int32)) = (1 : Int32) → post (0 : Int32)) ∧ (((x0 >>> (x1 &&& 31)) &&& (1 : Int32)) = (1 : Int32) → post (1 : Int32)))
set_option maxHeartbeats 4000000 in
set_option maxRecDepth 100000 in
theorem met_X10_has {Z : Nat → Prop} {A : Nat → Prop} {D : va_G} {D2 : Nat → ClassId} {ad : Nat → Nat} {N : Nat} {T : Nat → Nat × Nat} (l : Launch) {I : KI} {J : KJ} {Q : KQ} {x0 : Int32} {x1 : Int32} {post : Int32 → Prop} (hWF : WF Z N T Q)  (hw : wp_X10_has x0 x1 post) : Met l yX10_has (.code yX10_has cX10_has 2 (some .boolean) :: BIG) ({ frames := 0, cells := 0, slots := 0, locals := 0 }) (Pr D D2 A ad N T I J Q [.int x0, .int x1]) (va_Qi (fun (r : Int32) (u : KS) => post r ∧ u.1 = I ∧ u.2.1 = J ∧ u.2.2 = Q ∧ WF Z N T u.2.2) (Bw D D2 ad N T) A) 0 0 A := by
  refine Met_GG (lv0 := [(0, .int x0), (1, .int x1)]) (by decide +kernel) [.int x0, .int x1] (Nat.le_of_ble_eq_true rfl) rfl ?_
  intro p e s m below meth c C hr
  have C : CX p s m [.int x0, .int x1].toArray meth c cX10_has 2 RX10 A D D2 := C
  unfold wp_X10_has at hw
  refine g_iload_n C dX10_has_0 rfl 0 rfl ?_
  refine g_iload_n C dX10_has_1 rfl 1 rfl ?_
  refine g_ishr C dX10_has_2 ?_
  refine g_iconst (v := (1 : Int32)) C dX10_has_3 (by decide) ?_
  refine g_iand C dX10_has_4 ?_
  refine g_iconst (v := (1 : Int32)) C dX10_has_5 (by decide) ?_
  refine g_icmp_ne (tgt := 13) C dX10_has_6 (by decide) (fun c1 => ?_) (fun c1 => ?_)
  · have hw := hw.1 c1
    refine g_iconst (v := (0 : Int32)) C dX10_has_13 (by decide) ?_
    exact g_zret C dX10_has_14 hr rfl ⟨hw, rfl, rfl, rfl, hWF⟩
  · have hw := hw.2 c1
    refine g_iconst (v := (1 : Int32)) C dX10_has_9 (by decide) ?_
    refine g_goto C dX10_has_10 (tgt := 14) (by decide) ?_
    exact g_zret C dX10_has_14 hr rfl ⟨hw, rfl, rfl, rfl, hWF⟩
def wp_X7_rest_L4 (If_1 : KI) (Qf_1 : KQ) (f0_1 : Nat) (f1_1 : Int32) (post : Int32 → Prop) : Nat → Int32 → Int32 → Prop
  | 0, _, _ => False
  | n4 + 1, x2_1, x3_1 => (((8 : Int32) ≤ x3_1 → post x2_1) ∧ (¬ (8 : Int32) ≤ x3_1 → wp_X10_has f1_1 x3_1 (fun r3 => ((r3 = 0 → wp_X7_rest_L4 If_1 Qf_1 f0_1 f1_1 post n4 x2_1 (x3_1 + (1 : Int32))) ∧ (¬ r3 = 0 → (vp_in x3_1 8 ∧ wp_X7_rest_L4 If_1 Qf_1 f0_1 f1_1 post n4 (x2_1 ^^^ (If_1 (rq Qf_1 f0_1 0) x3_1.toNatClampNeg)) (x3_1 + (1 : Int32))))))))
def wp_X7_rest (I : KI) (Q : KQ) (h0 : Nat) (x1 : Int32) (post : Int32 → Prop) : Prop := (∃ q4, wp_X7_rest_L4 I Q h0 x1 post q4 x1 (0 : Int32))
set_option maxHeartbeats 4000000 in
set_option maxRecDepth 100000 in
theorem met_X7_rest {Z : Nat → Prop} {A : Nat → Prop} {D : va_G} {D2 : Nat → ClassId} {ad : Nat → Nat} {N : Nat} {T : Nat → Nat × Nat} (l : Launch) {I : KI} {J : KJ} {Q : KQ} {h0 : Nat} {x1 : Int32} {post : Int32 → Prop} (hWF : WF Z N T Q) (z0 : OKr Z N T h0 (7, 0)) (hw : wp_X7_rest I Q h0 x1 post) : Met l yX7_rest (.code yX7_rest cX7_rest 4 (some .int) :: BIG) ({ frames := 1, cells := 0, slots := 0, locals := 21 }) (Pr D D2 A ad N T I J Q [.ref (ad h0), .int x1]) (va_Qi (fun (r : Int32) (u : KS) => post r ∧ u.1 = I ∧ u.2.1 = J ∧ u.2.2 = Q ∧ WF Z N T u.2.2) (Bw D D2 ad N T) A) 0 0 A := by
  refine Met_GG (lv0 := [(0, .ref (ad h0)), (1, .int x1)]) (by decide +kernel) [.ref (ad h0), .int x1] (Nat.le_of_ble_eq_true rfl) rfl ?_
  intro p e s m below meth c C hr
  have C : CX p s m [.ref (ad h0), .int x1].toArray meth c cX7_rest 4 RX7 A D D2 := C
  unfold wp_X7_rest at hw
  refine g_iload_n C dX7_rest_0 rfl 1 rfl ?_
  refine g_istore_n (lv' := [(2, .int x1), (0, .ref (ad h0)), (1, .int x1)]) C dX7_rest_1 rfl (by decide) rfl ?_
  refine g_iconst (v := (0 : Int32)) C dX7_rest_2 (by decide) ?_
  refine g_istore_n (lv' := [(3, .int (0 : Int32)), (2, .int x1), (0, .ref (ad h0)), (1, .int x1)]) C dX7_rest_3 rfl (by decide) rfl ?_
  have L4_u6 : ∀ (n4 : Nat) (x2_1 : Int32) (x3_1 : Int32), wp_X7_rest_L4 I Q h0 x1 post n4 x2_1 x3_1 → WF Z N T Q → GG p l e ({ frames := 1, cells := 0, slots := 0, locals := 21 }) s m [.ref (ad h0), .int x1].toArray below meth c 4 A D D2 0 0 (MQ below (va_Qi (fun (r : Int32) (u : KS) => post r ∧ u.1 = I ∧ u.2.1 = J ∧ u.2.2 = Q ∧ WF Z N T u.2.2) (Bw D D2 ad N T) A) [.ref (ad h0), .int x1].toArray s 0 0 A) ad N T I J Q 4 [(0, .ref (ad h0)), (1, .int x1), (2, .int x2_1), (3, .int x3_1)] [] := by
    intro n4
    induction n4 with
    | zero => intro x2_1 x3_1 hw; exact hw.elim
    | succ n4 ih_u6 =>
      intro x2_1 x3_1 hw hWF
      unfold wp_X7_rest_L4 at hw
      refine g_iload_n C dX7_rest_4 rfl 3 rfl ?_
      refine g_bipush (v := (8 : Int32)) C dX7_rest_5 (by decide) ?_
      refine g_icmp_ge (tgt := 33) C dX7_rest_7 (by decide) (fun c8 => ?_) (fun c8 => ?_)
      · have hw := hw.1 c8
        refine g_iload_n C dX7_rest_33 rfl 2 rfl ?_
        exact g_iret C dX7_rest_34 hr ⟨hw, rfl, rfl, rfl, hWF⟩
      · have hw := hw.2 c8
        refine g_iload_n C dX7_rest_10 rfl 1 rfl ?_
        refine g_iload_n C dX7_rest_11 rfl 3 rfl ?_
        refine g_callSNi (As := [.int x1, .int x3_1]) C dX7_rest_12 ft_16 ft_17 (met_X10_has l hWF  hw) ⟨rfl, rfl, Nat.le_of_ble_eq_true rfl, Nat.le_of_ble_eq_true rfl⟩ ⟨Nat.zero_le _, Nat.zero_le _⟩ rfl rfl (Nat.le_of_ble_eq_true rfl) (fun r9 I9 J9 Q9 hp => ?_)
        obtain ⟨hw, eI, eJ, eQ, hWF⟩ := hp
        have eI : I = I9 := Eq.symm eI
        subst eI
        have eJ : J = J9 := Eq.symm eJ
        subst eJ
        have eQ : Q = Q9 := Eq.symm eQ
        subst eQ
        try dsimp only at hw hWF
        refine g_if_eq (tgt := 27) C dX7_rest_15 (by decide) (fun c10 => ?_) (fun c10 => ?_)
        · have hw := hw.1 c10
          refine g_iinc (v := (x3_1 + (1 : Int32))) (lv' := [(3, .int (x3_1 + (1 : Int32))), (0, .ref (ad h0)), (1, .int x1), (2, .int x2_1)]) C dX7_rest_27 (q := 3) rfl rfl (by decide) rfl ?_
          refine g_goto C dX7_rest_30 (tgt := 4) (by decide) ?_
          refine g_sub [1, 2, 3, 0] rfl ?_
          exact ih_u6 x2_1 (x3_1 + (1 : Int32)) hw hWF
        · have hw := hw.2 c10
          refine g_iload_n C dX7_rest_18 rfl 2 rfl ?_
          refine g_aload_n C dX7_rest_19 rfl 0 rfl ?_
          refine g_getQ C dX7_rest_20 ft_13 z0 (hWF.q z0 0 rfl) ?_
          have zz11 := hWF.r z0 0 rfl
          refine g_iload_n C dX7_rest_23 rfl 3 rfl ?_
          refine g_iald C dX7_rest_24 zz11 hw.1 ?_
          have hw := hw.2
          refine g_ixor C dX7_rest_25 ?_
          refine g_istore_n (lv' := [(2, .int (x2_1 ^^^ (I (rq Q h0 0) x3_1.toNatClampNeg))), (0, .ref (ad h0)), (1, .int x1), (3, .int x3_1)]) C dX7_rest_26 rfl (by decide) rfl ?_
          refine g_iinc (v := (x3_1 + (1 : Int32))) (lv' := [(3, .int (x3_1 + (1 : Int32))), (2, .int (x2_1 ^^^ (I (rq Q h0 0) x3_1.toNatClampNeg))), (0, .ref (ad h0)), (1, .int x1)]) C dX7_rest_27 (q := 3) rfl rfl (by decide) rfl ?_
          refine g_goto C dX7_rest_30 (tgt := 4) (by decide) ?_
          refine g_sub [2, 3, 1, 0] rfl ?_
          exact ih_u6 (x2_1 ^^^ (I (rq Q h0 0) x3_1.toNatClampNeg)) (x3_1 + (1 : Int32)) hw hWF
  obtain ⟨n_u6, hw⟩ := hw
  refine g_sub [2, 3, 1, 0] rfl ?_
  exact L4_u6 n_u6 x1 (0 : Int32) hw hWF
def wp_X7_greatest_L3 (f0_1 : Int32) (post : Int32 → Prop) : Nat → Int32 → Prop
  | 0, _ => False
  | n3 + 1, x1_1 => ((x1_1 < 0 → post (-1 : Int32)) ∧ (¬ x1_1 < 0 → wp_X10_has f0_1 x1_1 (fun r3 => ((r3 = 0 → wp_X7_greatest_L3 f0_1 post n3 (x1_1 + (-1 : Int32))) ∧ (¬ r3 = 0 → post x1_1)))))
def wp_X7_greatest  (x0 : Int32) (post : Int32 → Prop) : Prop := (∃ q3, wp_X7_greatest_L3 x0 post q3 (7 : Int32))
set_option maxHeartbeats 4000000 in
set_option maxRecDepth 100000 in
theorem met_X7_greatest {Z : Nat → Prop} {A : Nat → Prop} {D : va_G} {D2 : Nat → ClassId} {ad : Nat → Nat} {N : Nat} {T : Nat → Nat × Nat} (l : Launch) {I : KI} {J : KJ} {Q : KQ} {x0 : Int32} {post : Int32 → Prop} (hWF : WF Z N T Q)  (hw : wp_X7_greatest x0 post) : Met l yX7_greatest (.code yX7_greatest cX7_greatest 2 (some .int) :: BIG) ({ frames := 1, cells := 0, slots := 0, locals := 21 }) (Pr D D2 A ad N T I J Q [.int x0]) (va_Qi (fun (r : Int32) (u : KS) => post r ∧ u.1 = I ∧ u.2.1 = J ∧ u.2.2 = Q ∧ WF Z N T u.2.2) (Bw D D2 ad N T) A) 0 0 A := by
  refine Met_GG (lv0 := [(0, .int x0)]) (by decide +kernel) [.int x0] (Nat.le_of_ble_eq_true rfl) rfl ?_
  intro p e s m below meth c C hr
  have C : CX p s m [.int x0].toArray meth c cX7_greatest 2 RX7 A D D2 := C
  unfold wp_X7_greatest at hw
  refine g_bipush (v := (7 : Int32)) C dX7_greatest_0 (by decide) ?_
  refine g_istore_n (lv' := [(1, .int (7 : Int32)), (0, .int x0)]) C dX7_greatest_2 rfl (by decide) rfl ?_
  have L3_u5 : ∀ (n3 : Nat) (x1_1 : Int32), wp_X7_greatest_L3 x0 post n3 x1_1 → WF Z N T Q → GG p l e ({ frames := 1, cells := 0, slots := 0, locals := 21 }) s m [.int x0].toArray below meth c 2 A D D2 0 0 (MQ below (va_Qi (fun (r : Int32) (u : KS) => post r ∧ u.1 = I ∧ u.2.1 = J ∧ u.2.2 = Q ∧ WF Z N T u.2.2) (Bw D D2 ad N T) A) [.int x0].toArray s 0 0 A) ad N T I J Q 3 [(0, .int x0), (1, .int x1_1)] [] := by
    intro n3
    induction n3 with
    | zero => intro x1_1 hw; exact hw.elim
    | succ n3 ih_u5 =>
      intro x1_1 hw hWF
      unfold wp_X7_greatest_L3 at hw
      refine g_iload_n C dX7_greatest_3 rfl 1 rfl ?_
      refine g_if_lt (tgt := 23) C dX7_greatest_4 (by decide) (fun c7 => ?_) (fun c7 => ?_)
      · have hw := hw.1 c7
        refine g_iconst (v := (-1 : Int32)) C dX7_greatest_23 (by decide) ?_
        exact g_iret C dX7_greatest_24 hr ⟨hw, rfl, rfl, rfl, hWF⟩
      · have hw := hw.2 c7
        refine g_iload_n C dX7_greatest_7 rfl 0 rfl ?_
        refine g_iload_n C dX7_greatest_8 rfl 1 rfl ?_
        refine g_callSNi (As := [.int x0, .int x1_1]) C dX7_greatest_9 ft_16 ft_17 (met_X10_has l hWF  hw) ⟨rfl, rfl, Nat.le_of_ble_eq_true rfl, Nat.le_of_ble_eq_true rfl⟩ ⟨Nat.zero_le _, Nat.zero_le _⟩ rfl rfl (Nat.le_of_ble_eq_true rfl) (fun r8 I8 J8 Q8 hp => ?_)
        obtain ⟨hw, eI, eJ, eQ, hWF⟩ := hp
        have eI : I = I8 := Eq.symm eI
        subst eI
        have eJ : J = J8 := Eq.symm eJ
        subst eJ
        have eQ : Q = Q8 := Eq.symm eQ
        subst eQ
        try dsimp only at hw hWF
        refine g_if_eq (tgt := 17) C dX7_greatest_12 (by decide) (fun c9 => ?_) (fun c9 => ?_)
        · have hw := hw.1 c9
          refine g_iinc (v := (x1_1 + (-1 : Int32))) (lv' := [(1, .int (x1_1 + (-1 : Int32))), (0, .int x0)]) C dX7_greatest_17 (q := 1) rfl rfl (by decide) rfl ?_
          refine g_goto C dX7_greatest_20 (tgt := 3) (by decide) ?_
          refine g_sub [1, 0] rfl ?_
          exact ih_u5 (x1_1 + (-1 : Int32)) hw hWF
        · have hw := hw.2 c9
          refine g_iload_n C dX7_greatest_15 rfl 1 rfl ?_
          exact g_iret C dX7_greatest_16 hr ⟨hw, rfl, rfl, rfl, hWF⟩
  obtain ⟨n_u5, hw⟩ := hw
  refine g_sub [1, 0] rfl ?_
  exact L3_u5 n_u5 (7 : Int32) hw hWF
def wp_X7_add_L20 (Qf_4 : KQ) (f0_4 : Nat) (f2_4 : Int32) (f3_4 : Int32) (post : Int32 → KI → Prop) : Nat → KI → Int32 → Prop
  | 0, _, _ => False
  | n20 + 1, I_4, x4_4 => (((8 : Int32) ≤ x4_4 → (vp_in f3_4 8 ∧ post (1 : Int32) (sti I_4 (rq Qf_4 f0_4 0) f3_4.toNatClampNeg f2_4))) ∧ (¬ (8 : Int32) ≤ x4_4 → (vp_in x4_4 8 ∧ wp_X10_has (I_4 (rq Qf_4 f0_4 0) x4_4.toNatClampNeg) f3_4 (fun r8 => ((r8 = 0 → wp_X7_add_L20 Qf_4 f0_4 f2_4 f3_4 post n20 I_4 (x4_4 + (1 : Int32))) ∧ (¬ r8 = 0 → (vp_in x4_4 8 ∧ (vp_in x4_4 8 ∧ wp_X7_add_L20 Qf_4 f0_4 f2_4 f3_4 post n20 (sti I_4 (rq Qf_4 f0_4 0) x4_4.toNatClampNeg ((I_4 (rq Qf_4 f0_4 0) x4_4.toNatClampNeg) ^^^ f2_4)) (x4_4 + (1 : Int32))))))))))
def wp_X7_add (I : KI) (Q : KQ) (h0 : Nat) (x1 : Int32) (post : Int32 → KI → Prop) : Prop := wp_X7_rest I Q h0 x1 (fun r1 => wp_X7_greatest r1 (fun r2 => ((0 ≤ r2 → (∃ q20, wp_X7_add_L20 Q h0 r1 r2 post q20 I (0 : Int32))) ∧ (¬ 0 ≤ r2 → post (0 : Int32) I))))
set_option maxHeartbeats 4000000 in
set_option maxRecDepth 100000 in
theorem met_X7_add {Z : Nat → Prop} {A : Nat → Prop} {D : va_G} {D2 : Nat → ClassId} {ad : Nat → Nat} {N : Nat} {T : Nat → Nat × Nat} (l : Launch) {I : KI} {J : KJ} {Q : KQ} {h0 : Nat} {x1 : Int32} {post : Int32 → KI → Prop} (hWF : WF Z N T Q) (z0 : OKr Z N T h0 (7, 0)) (hw : wp_X7_add I Q h0 x1 post) : Met l yX7_add (.code yX7_add cX7_add 5 (some .boolean) :: BIG) ({ frames := 2, cells := 0, slots := 0, locals := 44 }) (Pr D D2 A ad N T I J Q [.ref (ad h0), .int x1]) (va_Qi (fun (r : Int32) (u : KS) => post r u.1 ∧ u.2.1 = J ∧ u.2.2 = Q ∧ WF Z N T u.2.2) (Bw D D2 ad N T) A) 0 0 A := by
  refine Met_GG (lv0 := [(0, .ref (ad h0)), (1, .int x1)]) (by decide +kernel) [.ref (ad h0), .int x1] (Nat.le_of_ble_eq_true rfl) rfl ?_
  intro p e s m below meth c C hr
  have C : CX p s m [.ref (ad h0), .int x1].toArray meth c cX7_add 5 RX7 A D D2 := C
  unfold wp_X7_add at hw
  refine g_aload_n C dX7_add_0 rfl 0 rfl ?_
  refine g_iload_n C dX7_add_1 rfl 1 rfl ?_
  refine g_callVi (As := [.int x1]) C dX7_add_2 ft_22 z0 ft_20 ft_21 (met_X7_rest l hWF z0 hw) ⟨rfl, rfl, Nat.le_of_ble_eq_true rfl, Nat.le_of_ble_eq_true rfl⟩ ⟨Nat.zero_le _, Nat.zero_le _⟩ rfl rfl (Nat.le_of_ble_eq_true rfl) (fun r1 I1 J1 Q1 hp => ?_)
  obtain ⟨hw, eI, eJ, eQ, hWF⟩ := hp
  have eI : I = I1 := Eq.symm eI
  subst eI
  have eJ : J = J1 := Eq.symm eJ
  subst eJ
  have eQ : Q = Q1 := Eq.symm eQ
  subst eQ
  try dsimp only at hw hWF
  refine g_istore_n (lv' := [(2, .int r1), (0, .ref (ad h0)), (1, .int x1)]) C dX7_add_5 rfl (by decide) rfl ?_
  refine g_iload_n C dX7_add_6 rfl 0 rfl ?_
  refine g_callSi (As := [.int r1]) C dX7_add_7 ft_18 ft_19 (met_X7_greatest l hWF  hw) ⟨rfl, rfl, Nat.le_of_ble_eq_true rfl, Nat.le_of_ble_eq_true rfl⟩ ⟨Nat.zero_le _, Nat.zero_le _⟩ rfl rfl (Nat.le_of_ble_eq_true rfl) (fun r2 I2 J2 Q2 hp => ?_)
  obtain ⟨hw, eI, eJ, eQ, hWF⟩ := hp
  have eI : I = I2 := Eq.symm eI
  subst eI
  have eJ : J = J2 := Eq.symm eJ
  subst eJ
  have eQ : Q = Q2 := Eq.symm eQ
  subst eQ
  try dsimp only at hw hWF
  refine g_istore_n (lv' := [(3, .int r2), (2, .int r1), (0, .ref (ad h0)), (1, .int x1)]) C dX7_add_10 rfl (by decide) rfl ?_
  refine g_iload_n C dX7_add_11 rfl 0 rfl ?_
  refine g_if_ge (tgt := 17) C dX7_add_12 (by decide) (fun c3 => ?_) (fun c3 => ?_)
  · have hw := hw.1 c3
    refine g_iconst (v := (0 : Int32)) C dX7_add_17 (by decide) ?_
    refine g_istore (lv' := [(4, .int (0 : Int32)), (3, .int r2), (2, .int r1), (0, .ref (ad h0)), (1, .int x1)]) C dX7_add_18 (by decide) rfl ?_
    have L20_u11 : ∀ (n20 : Nat) (I_4 : KI) (x4_4 : Int32), wp_X7_add_L20 Q h0 r1 r2 post n20 I_4 x4_4 → WF Z N T Q → GG p l e ({ frames := 2, cells := 0, slots := 0, locals := 44 }) s m [.ref (ad h0), .int x1].toArray below meth c 5 A D D2 0 0 (MQ below (va_Qi (fun (r : Int32) (u : KS) => post r u.1 ∧ u.2.1 = J ∧ u.2.2 = Q ∧ WF Z N T u.2.2) (Bw D D2 ad N T) A) [.ref (ad h0), .int x1].toArray s 0 0 A) ad N T I_4 J Q 20 [(0, .ref (ad h0)), (2, .int r1), (3, .int r2), (4, .int x4_4)] [] := by
      intro n20
      induction n20 with
      | zero => intro I_4 x4_4 hw; exact hw.elim
      | succ n20 ih_u11 =>
        intro I_4 x4_4 hw hWF
        unfold wp_X7_add_L20 at hw
        refine g_iload C dX7_add_20 3 rfl ?_
        refine g_bipush (v := (8 : Int32)) C dX7_add_22 (by decide) ?_
        refine g_icmp_ge (tgt := 58) C dX7_add_24 (by decide) (fun c13 => ?_) (fun c13 => ?_)
        · have hw := hw.1 c13
          refine g_aload_n C dX7_add_58 rfl 0 rfl ?_
          refine g_getQ C dX7_add_59 ft_13 z0 (hWF.q z0 0 rfl) ?_
          have zz14 := hWF.r z0 0 rfl
          refine g_iload_n C dX7_add_62 rfl 2 rfl ?_
          refine g_iload_n C dX7_add_63 rfl 1 rfl ?_
          refine g_iast C dX7_add_64 zz14 hw.1 ?_
          have hw := hw.2
          refine g_iconst (v := (1 : Int32)) C dX7_add_65 (by decide) ?_
          exact g_zret C dX7_add_66 hr rfl ⟨hw, rfl, rfl, hWF⟩
        · have hw := hw.2 c13
          refine g_aload_n C dX7_add_27 rfl 0 rfl ?_
          refine g_getQ C dX7_add_28 ft_13 z0 (hWF.q z0 0 rfl) ?_
          have zz15 := hWF.r z0 0 rfl
          refine g_iload C dX7_add_31 3 rfl ?_
          refine g_iald C dX7_add_33 zz15 hw.1 ?_
          have hw := hw.2
          refine g_iload_n C dX7_add_34 rfl 2 rfl ?_
          refine g_callSNi (As := [.int (I_4 (rq Q h0 0) x4_4.toNatClampNeg), .int r2]) C dX7_add_35 ft_16 ft_17 (met_X10_has l hWF  hw) ⟨rfl, rfl, Nat.le_of_ble_eq_true rfl, Nat.le_of_ble_eq_true rfl⟩ ⟨Nat.zero_le _, Nat.zero_le _⟩ rfl rfl (Nat.le_of_ble_eq_true rfl) (fun r16 I16 J16 Q16 hp => ?_)
          obtain ⟨hw, eI, eJ, eQ, hWF⟩ := hp
          have eI : I_4 = I16 := Eq.symm eI
          subst eI
          have eJ : J = J16 := Eq.symm eJ
          subst eJ
          have eQ : Q = Q16 := Eq.symm eQ
          subst eQ
          try dsimp only at hw hWF
          refine g_if_eq (tgt := 52) C dX7_add_38 (by decide) (fun c17 => ?_) (fun c17 => ?_)
          · have hw := hw.1 c17
            refine g_iinc (v := (x4_4 + (1 : Int32))) (lv' := [(4, .int (x4_4 + (1 : Int32))), (0, .ref (ad h0)), (2, .int r1), (3, .int r2)]) C dX7_add_52 (q := 3) rfl rfl (by decide) rfl ?_
            refine g_goto C dX7_add_55 (tgt := 20) (by decide) ?_
            refine g_sub [1, 2, 3, 0] rfl ?_
            exact ih_u11 I_4 (x4_4 + (1 : Int32)) hw hWF
          · have hw := hw.2 c17
            refine g_aload_n C dX7_add_41 rfl 0 rfl ?_
            refine g_getQ C dX7_add_42 ft_13 z0 (hWF.q z0 0 rfl) ?_
            have zz18 := hWF.r z0 0 rfl
            refine g_iload C dX7_add_45 3 rfl ?_
            refine g_dup2 C dX7_add_47 rfl rfl ?_
            refine g_iald C dX7_add_48 zz18 hw.1 ?_
            have hw := hw.2
            refine g_iload_n C dX7_add_49 rfl 1 rfl ?_
            refine g_ixor C dX7_add_50 ?_
            refine g_iast C dX7_add_51 zz18 hw.1 ?_
            have hw := hw.2
            refine g_iinc (v := (x4_4 + (1 : Int32))) (lv' := [(4, .int (x4_4 + (1 : Int32))), (0, .ref (ad h0)), (2, .int r1), (3, .int r2)]) C dX7_add_52 (q := 3) rfl rfl (by decide) rfl ?_
            refine g_goto C dX7_add_55 (tgt := 20) (by decide) ?_
            refine g_sub [1, 2, 3, 0] rfl ?_
            exact ih_u11 (sti I_4 (rq Q h0 0) x4_4.toNatClampNeg ((I_4 (rq Q h0 0) x4_4.toNatClampNeg) ^^^ r1)) (x4_4 + (1 : Int32)) hw hWF
    obtain ⟨n_u11, hw⟩ := hw
    refine g_sub [3, 2, 1, 0] rfl ?_
    exact L20_u11 n_u11 I (0 : Int32) hw hWF
  · have hw := hw.2 c3
    refine g_iconst (v := (0 : Int32)) C dX7_add_15 (by decide) ?_
    exact g_zret C dX7_add_16 hr rfl ⟨hw, rfl, rfl, hWF⟩
def wp_X5_deliver_L51 (Qf_6 : KQ) (f0_6 : Nat) (f2_6 : Nat) (f4_6 : Int32) (f6_6 : Int32) (f7_6 : Int32) (k101 : KI → Int32 → Prop) : Nat → KI → Int32 → Int32 → Prop
  | 0, _, _, _ => False
  | n51 + 1, I_6, x5_6, x8_6 => ((f7_6 ≤ x8_6 → k101 I_6 x5_6) ∧ (¬ f7_6 ≤ x8_6 → ((f4_6 ≤ x5_6 → k101 I_6 x5_6) ∧ (¬ f4_6 ≤ x5_6 → (vp_in ((f6_6 * (8 : Int32)) + x8_6) 48 ∧ wp_X7_add I_6 Qf_6 f2_6 (I_6 (rq Qf_6 f0_6 0) ((f6_6 * (8 : Int32)) + x8_6).toNatClampNeg) (fun r10 I10 => ((r10 = 0 → wp_X5_deliver_L51 Qf_6 f0_6 f2_6 f4_6 f6_6 f7_6 k101 n51 I10 (x5_6 + (0 : Int32)) (x8_6 + (1 : Int32))) ∧ (¬ r10 = 0 → wp_X5_deliver_L51 Qf_6 f0_6 f2_6 f4_6 f6_6 f7_6 k101 n51 I10 (x5_6 + (1 : Int32)) (x8_6 + (1 : Int32))))))))))
def wp_X5_deliver_L17 (Qf_2 : KQ) (f0_2 : Nat) (f1_2 : Nat) (f2_2 : Nat) (f3_2 : Int32) (f4_2 : Int32) (post : Int32 → KI → Prop) : Nat → KI → Int32 → Int32 → Prop
  | 0, _, _, _ => False
  | n17 + 1, I_2, x5_2, x6_2 => (((I_2 f1_2 3) ≤ x6_2 → post x5_2 I_2) ∧ (¬ (I_2 f1_2 3) ≤ x6_2 → wp_X10_has f3_2 x6_2 (fun r4 => ((r4 = 0 → (∃ q51, wp_X5_deliver_L51 Qf_2 f0_2 f2_2 f4_2 x6_2 (0 : Int32) (fun I_13 x5_13 => wp_X5_deliver_L17 Qf_2 f0_2 f1_2 f2_2 f3_2 f4_2 post n17 I_13 x5_13 (x6_2 + (1 : Int32))) q51 I_2 x5_2 (0 : Int32))) ∧ (¬ r4 = 0 → (vp_in x6_2 6 ∧ (∃ q51, wp_X5_deliver_L51 Qf_2 f0_2 f2_2 f4_2 x6_2 (I_2 (rq Qf_2 f0_2 1) x6_2.toNatClampNeg) (fun I_23 x5_23 => wp_X5_deliver_L17 Qf_2 f0_2 f1_2 f2_2 f3_2 f4_2 post n17 I_23 x5_23 (x6_2 + (1 : Int32))) q51 I_2 x5_2 (0 : Int32))))))))
def wp_X5_deliver (I : KI) (Q : KQ) (h0 : Nat) (h1 : Nat) (h2 : Nat) (x3 : Int32) (post : Int32 → KI → Prop) : Prop := wp_X7_rank I Q h2 (fun r1 => (∃ q17, wp_X5_deliver_L17 Q h0 h1 h2 x3 ((I h1 4) - r1) post q17 I (0 : Int32) (0 : Int32)))
set_option maxHeartbeats 4000000 in
set_option maxRecDepth 100000 in
theorem met_X5_deliver {Z : Nat → Prop} {A : Nat → Prop} {D : va_G} {D2 : Nat → ClassId} {ad : Nat → Nat} {N : Nat} {T : Nat → Nat × Nat} (l : Launch) {I : KI} {J : KJ} {Q : KQ} {h0 : Nat} {h1 : Nat} {h2 : Nat} {x3 : Int32} {post : Int32 → KI → Prop} (hWF : WF Z N T Q) (z0 : OKr Z N T h0 (5, 0)) (z1 : OKr Z N T h1 (1, 0)) (z2 : OKr Z N T h2 (7, 0)) (hw : wp_X5_deliver I Q h0 h1 h2 x3 post) : Met l yX5_deliver (.code yX5_deliver cX5_deliver 9 (some .int) :: BIG) ({ frames := 3, cells := 0, slots := 0, locals := 68 }) (Pr D D2 A ad N T I J Q [.ref (ad h0), .ref (ad h1), .ref (ad h2), .int x3]) (va_Qi (fun (r : Int32) (u : KS) => post r u.1 ∧ u.2.1 = J ∧ u.2.2 = Q ∧ WF Z N T u.2.2) (Bw D D2 ad N T) A) 0 0 A := by
  refine Met_GG (lv0 := [(0, .ref (ad h0)), (1, .ref (ad h1)), (2, .ref (ad h2)), (3, .int x3)]) (by decide +kernel) [.ref (ad h0), .ref (ad h1), .ref (ad h2), .int x3] (Nat.le_of_ble_eq_true rfl) rfl ?_
  intro p e s m below meth c C hr
  have C : CX p s m [.ref (ad h0), .ref (ad h1), .ref (ad h2), .int x3].toArray meth c cX5_deliver 9 RX5 A D D2 := C
  unfold wp_X5_deliver at hw
  refine g_aload_n C dX5_deliver_0 rfl 1 rfl ?_
  refine g_getI C dX5_deliver_1 ft_23 z1 ?_
  refine g_aload_n C dX5_deliver_4 rfl 2 rfl ?_
  refine g_callVi (As := []) C dX5_deliver_5 ft_22 z2 ft_31 ft_32 (met_X7_rank l hWF z2 hw) ⟨rfl, rfl, Nat.le_of_ble_eq_true rfl, Nat.le_of_ble_eq_true rfl⟩ ⟨Nat.zero_le _, Nat.zero_le _⟩ rfl rfl (Nat.le_of_ble_eq_true rfl) (fun r1 I1 J1 Q1 hp => ?_)
  obtain ⟨hw, eI, eJ, eQ, hWF⟩ := hp
  have eI : I = I1 := Eq.symm eI
  subst eI
  have eJ : J = J1 := Eq.symm eJ
  subst eJ
  have eQ : Q = Q1 := Eq.symm eQ
  subst eQ
  try dsimp only at hw hWF
  refine g_isub C dX5_deliver_8 ?_
  refine g_istore (lv' := [(4, .int ((I h1 4) - r1)), (0, .ref (ad h0)), (1, .ref (ad h1)), (2, .ref (ad h2)), (3, .int x3)]) C dX5_deliver_9 (by decide) rfl ?_
  refine g_iconst (v := (0 : Int32)) C dX5_deliver_11 (by decide) ?_
  refine g_istore (lv' := [(5, .int (0 : Int32)), (4, .int ((I h1 4) - r1)), (0, .ref (ad h0)), (1, .ref (ad h1)), (2, .ref (ad h2)), (3, .int x3)]) C dX5_deliver_12 (by decide) rfl ?_
  refine g_iconst (v := (0 : Int32)) C dX5_deliver_14 (by decide) ?_
  refine g_istore (lv' := [(6, .int (0 : Int32)), (5, .int (0 : Int32)), (4, .int ((I h1 4) - r1)), (0, .ref (ad h0)), (1, .ref (ad h1)), (2, .ref (ad h2)), (3, .int x3)]) C dX5_deliver_15 (by decide) rfl ?_
  have L17_u30 : ∀ (n17 : Nat) (I_2 : KI) (x5_2 : Int32) (x6_2 : Int32), wp_X5_deliver_L17 Q h0 h1 h2 x3 ((I h1 4) - r1) post n17 I_2 x5_2 x6_2 → WF Z N T Q → GG p l e ({ frames := 3, cells := 0, slots := 0, locals := 68 }) s m [.ref (ad h0), .ref (ad h1), .ref (ad h2), .int x3].toArray below meth c 9 A D D2 0 0 (MQ below (va_Qi (fun (r : Int32) (u : KS) => post r u.1 ∧ u.2.1 = J ∧ u.2.2 = Q ∧ WF Z N T u.2.2) (Bw D D2 ad N T) A) [.ref (ad h0), .ref (ad h1), .ref (ad h2), .int x3].toArray s 0 0 A) ad N T I_2 J Q 17 [(0, .ref (ad h0)), (1, .ref (ad h1)), (2, .ref (ad h2)), (3, .int x3), (4, .int ((I h1 4) - r1)), (5, .int x5_2), (6, .int x6_2)] [] := by
    intro n17
    induction n17 with
    | zero => intro I_2 x5_2 x6_2 hw; exact hw.elim
    | succ n17 ih_u30 =>
      intro I_2 x5_2 x6_2 hw hWF
      unfold wp_X5_deliver_L17 at hw
      refine g_iload C dX5_deliver_17 6 rfl ?_
      refine g_aload_n C dX5_deliver_19 rfl 1 rfl ?_
      refine g_getI C dX5_deliver_20 ft_24 z1 ?_
      refine g_icmp_ge (tgt := 107) C dX5_deliver_23 (by decide) (fun c32 => ?_) (fun c32 => ?_)
      · have hw := hw.1 c32
        refine g_iload C dX5_deliver_107 5 rfl ?_
        exact g_iret C dX5_deliver_109 hr ⟨hw, rfl, rfl, hWF⟩
      · have hw := hw.2 c32
        refine g_iload_n C dX5_deliver_26 rfl 3 rfl ?_
        refine g_iload C dX5_deliver_27 6 rfl ?_
        refine g_callSNi (As := [.int x3, .int x6_2]) C dX5_deliver_29 ft_30 ft_17 (met_X10_has l hWF  hw) ⟨rfl, rfl, Nat.le_of_ble_eq_true rfl, Nat.le_of_ble_eq_true rfl⟩ ⟨Nat.zero_le _, Nat.zero_le _⟩ rfl rfl (Nat.le_of_ble_eq_true rfl) (fun r33 I33 J33 Q33 hp => ?_)
        obtain ⟨hw, eI, eJ, eQ, hWF⟩ := hp
        have eI : I_2 = I33 := Eq.symm eI
        subst eI
        have eJ : J = J33 := Eq.symm eJ
        subst eJ
        have eQ : Q = Q33 := Eq.symm eQ
        subst eQ
        try dsimp only at hw hWF
        refine g_if_eq (tgt := 45) C dX5_deliver_32 (by decide) (fun c34 => ?_) (fun c34 => ?_)
        · have hw := hw.1 c34
          refine g_iconst (v := (0 : Int32)) C dX5_deliver_45 (by decide) ?_
          refine g_istore (lv' := [(7, .int (0 : Int32)), (0, .ref (ad h0)), (1, .ref (ad h1)), (2, .ref (ad h2)), (3, .int x3), (4, .int ((I h1 4) - r1)), (5, .int x5_2), (6, .int x6_2)]) C dX5_deliver_46 (by decide) rfl ?_
          refine g_iconst (v := (0 : Int32)) C dX5_deliver_48 (by decide) ?_
          refine g_istore (lv' := [(8, .int (0 : Int32)), (7, .int (0 : Int32)), (0, .ref (ad h0)), (1, .ref (ad h1)), (2, .ref (ad h2)), (3, .int x3), (4, .int ((I h1 4) - r1)), (5, .int x5_2), (6, .int x6_2)]) C dX5_deliver_49 (by decide) rfl ?_
          have K101_u36 : ∀ (I_37 : KI) (x5_37 : Int32), (wp_X5_deliver_L17 Q h0 h1 h2 x3 ((I h1 4) - r1) post n17 I_37 x5_37 (x6_2 + (1 : Int32))) → WF Z N T Q → GG p l e ({ frames := 3, cells := 0, slots := 0, locals := 68 }) s m [.ref (ad h0), .ref (ad h1), .ref (ad h2), .int x3].toArray below meth c 9 A D D2 0 0 (MQ below (va_Qi (fun (r : Int32) (u : KS) => post r u.1 ∧ u.2.1 = J ∧ u.2.2 = Q ∧ WF Z N T u.2.2) (Bw D D2 ad N T) A) [.ref (ad h0), .ref (ad h1), .ref (ad h2), .int x3].toArray s 0 0 A) ad N T I_37 J Q 101 [(0, .ref (ad h0)), (1, .ref (ad h1)), (2, .ref (ad h2)), (3, .int x3), (4, .int ((I h1 4) - r1)), (5, .int x5_37), (6, .int x6_2)] [] := by
            intro I_37 x5_37 hw hWF
            refine g_iinc (v := (x6_2 + (1 : Int32))) (lv' := [(6, .int (x6_2 + (1 : Int32))), (0, .ref (ad h0)), (1, .ref (ad h1)), (2, .ref (ad h2)), (3, .int x3), (4, .int ((I h1 4) - r1)), (5, .int x5_37)]) C dX5_deliver_101 (q := 6) rfl rfl (by decide) rfl ?_
            refine g_goto C dX5_deliver_104 (tgt := 17) (by decide) ?_
            refine g_sub [1, 2, 3, 4, 5, 6, 0] rfl ?_
            exact ih_u30 I_37 x5_37 (x6_2 + (1 : Int32)) hw hWF
          have L51_u36 : ∀ (n51 : Nat) (I_6 : KI) (x5_6 : Int32) (x8_6 : Int32), wp_X5_deliver_L51 Q h0 h2 ((I h1 4) - r1) x6_2 (0 : Int32) (fun I_37 x5_37 => wp_X5_deliver_L17 Q h0 h1 h2 x3 ((I h1 4) - r1) post n17 I_37 x5_37 (x6_2 + (1 : Int32))) n51 I_6 x5_6 x8_6 → WF Z N T Q → GG p l e ({ frames := 3, cells := 0, slots := 0, locals := 68 }) s m [.ref (ad h0), .ref (ad h1), .ref (ad h2), .int x3].toArray below meth c 9 A D D2 0 0 (MQ below (va_Qi (fun (r : Int32) (u : KS) => post r u.1 ∧ u.2.1 = J ∧ u.2.2 = Q ∧ WF Z N T u.2.2) (Bw D D2 ad N T) A) [.ref (ad h0), .ref (ad h1), .ref (ad h2), .int x3].toArray s 0 0 A) ad N T I_6 J Q 51 [(0, .ref (ad h0)), (1, .ref (ad h1)), (2, .ref (ad h2)), (3, .int x3), (4, .int ((I h1 4) - r1)), (5, .int x5_6), (6, .int x6_2), (7, .int (0 : Int32)), (8, .int x8_6)] [] := by
            intro n51
            induction n51 with
            | zero => intro I_6 x5_6 x8_6 hw; exact hw.elim
            | succ n51 ih_u36 =>
              intro I_6 x5_6 x8_6 hw hWF
              unfold wp_X5_deliver_L51 at hw
              refine g_iload C dX5_deliver_51 8 rfl ?_
              refine g_iload C dX5_deliver_53 7 rfl ?_
              refine g_icmp_ge (tgt := 101) C dX5_deliver_55 (by decide) (fun c39 => ?_) (fun c39 => ?_)
              · have hw := hw.1 c39
                refine g_sub [0, 1, 2, 3, 4, 5, 6] rfl ?_
                exact K101_u36 I_6 x5_6 hw hWF
              · have hw := hw.2 c39
                refine g_iload C dX5_deliver_58 5 rfl ?_
                refine g_iload C dX5_deliver_60 4 rfl ?_
                refine g_icmp_ge (tgt := 101) C dX5_deliver_62 (by decide) (fun c40 => ?_) (fun c40 => ?_)
                · have hw := hw.1 c40
                  refine g_sub [0, 1, 2, 3, 4, 5, 6] rfl ?_
                  exact K101_u36 I_6 x5_6 hw hWF
                · have hw := hw.2 c40
                  refine g_iload C dX5_deliver_65 5 rfl ?_
                  refine g_aload_n C dX5_deliver_67 rfl 2 rfl ?_
                  refine g_aload_n C dX5_deliver_68 rfl 0 rfl ?_
                  refine g_getQ C dX5_deliver_69 ft_25 z0 (hWF.q z0 0 rfl) ?_
                  have zz41 := hWF.r z0 0 rfl
                  refine g_iload C dX5_deliver_72 6 rfl ?_
                  refine g_bipush (v := (8 : Int32)) C dX5_deliver_74 (by decide) ?_
                  refine g_imul C dX5_deliver_76 ?_
                  refine g_iload C dX5_deliver_77 8 rfl ?_
                  refine g_iadd C dX5_deliver_79 ?_
                  refine g_iald C dX5_deliver_80 zz41 hw.1 ?_
                  have hw := hw.2
                  refine g_callVi (As := [.int (I_6 (rq Q h0 0) ((x6_2 * (8 : Int32)) + x8_6).toNatClampNeg)]) C dX5_deliver_81 ft_22 z2 ft_27 ft_28 (met_X7_add l hWF z2 hw) ⟨rfl, rfl, Nat.le_of_ble_eq_true rfl, Nat.le_of_ble_eq_true rfl⟩ ⟨Nat.zero_le _, Nat.zero_le _⟩ rfl rfl (Nat.le_of_ble_eq_true rfl) (fun r42 I42 J42 Q42 hp => ?_)
                  obtain ⟨hw, eJ, eQ, hWF⟩ := hp
                  have eJ : J = J42 := Eq.symm eJ
                  subst eJ
                  have eQ : Q = Q42 := Eq.symm eQ
                  subst eQ
                  try dsimp only at hw hWF
                  refine g_if_eq (tgt := 91) C dX5_deliver_84 (by decide) (fun c43 => ?_) (fun c43 => ?_)
                  · have hw := hw.1 c43
                    refine g_iconst (v := (0 : Int32)) C dX5_deliver_91 (by decide) ?_
                    refine g_iadd C dX5_deliver_92 ?_
                    refine g_istore (lv' := [(5, .int (x5_6 + (0 : Int32))), (0, .ref (ad h0)), (1, .ref (ad h1)), (2, .ref (ad h2)), (3, .int x3), (4, .int ((I h1 4) - r1)), (6, .int x6_2), (7, .int (0 : Int32)), (8, .int x8_6)]) C dX5_deliver_93 (by decide) rfl ?_
                    refine g_iinc (v := (x8_6 + (1 : Int32))) (lv' := [(8, .int (x8_6 + (1 : Int32))), (5, .int (x5_6 + (0 : Int32))), (0, .ref (ad h0)), (1, .ref (ad h1)), (2, .ref (ad h2)), (3, .int x3), (4, .int ((I h1 4) - r1)), (6, .int x6_2), (7, .int (0 : Int32))]) C dX5_deliver_95 (q := 8) rfl rfl (by decide) rfl ?_
                    refine g_goto C dX5_deliver_98 (tgt := 51) (by decide) ?_
                    refine g_sub [2, 3, 4, 5, 6, 1, 7, 8, 0] rfl ?_
                    exact ih_u36 I42 (x5_6 + (0 : Int32)) (x8_6 + (1 : Int32)) hw hWF
                  · have hw := hw.2 c43
                    refine g_iconst (v := (1 : Int32)) C dX5_deliver_87 (by decide) ?_
                    refine g_goto C dX5_deliver_88 (tgt := 92) (by decide) ?_
                    refine g_iadd C dX5_deliver_92 ?_
                    refine g_istore (lv' := [(5, .int (x5_6 + (1 : Int32))), (0, .ref (ad h0)), (1, .ref (ad h1)), (2, .ref (ad h2)), (3, .int x3), (4, .int ((I h1 4) - r1)), (6, .int x6_2), (7, .int (0 : Int32)), (8, .int x8_6)]) C dX5_deliver_93 (by decide) rfl ?_
                    refine g_iinc (v := (x8_6 + (1 : Int32))) (lv' := [(8, .int (x8_6 + (1 : Int32))), (5, .int (x5_6 + (1 : Int32))), (0, .ref (ad h0)), (1, .ref (ad h1)), (2, .ref (ad h2)), (3, .int x3), (4, .int ((I h1 4) - r1)), (6, .int x6_2), (7, .int (0 : Int32))]) C dX5_deliver_95 (q := 8) rfl rfl (by decide) rfl ?_
                    refine g_goto C dX5_deliver_98 (tgt := 51) (by decide) ?_
                    refine g_sub [2, 3, 4, 5, 6, 1, 7, 8, 0] rfl ?_
                    exact ih_u36 I42 (x5_6 + (1 : Int32)) (x8_6 + (1 : Int32)) hw hWF
          obtain ⟨n_u36, hw⟩ := hw
          refine g_sub [2, 3, 4, 5, 6, 7, 8, 1, 0] rfl ?_
          exact L51_u36 n_u36 I_2 x5_2 (0 : Int32) hw hWF
        · have hw := hw.2 c34
          refine g_aload_n C dX5_deliver_35 rfl 0 rfl ?_
          refine g_getQ C dX5_deliver_36 ft_29 z0 (hWF.q z0 1 rfl) ?_
          have zz44 := hWF.r z0 1 rfl
          refine g_iload C dX5_deliver_39 6 rfl ?_
          refine g_iald C dX5_deliver_41 zz44 hw.1 ?_
          have hw := hw.2
          refine g_goto C dX5_deliver_42 (tgt := 46) (by decide) ?_
          refine g_istore (lv' := [(7, .int (I_2 (rq Q h0 1) x6_2.toNatClampNeg)), (0, .ref (ad h0)), (1, .ref (ad h1)), (2, .ref (ad h2)), (3, .int x3), (4, .int ((I h1 4) - r1)), (5, .int x5_2), (6, .int x6_2)]) C dX5_deliver_46 (by decide) rfl ?_
          refine g_iconst (v := (0 : Int32)) C dX5_deliver_48 (by decide) ?_
          refine g_istore (lv' := [(8, .int (0 : Int32)), (7, .int (I_2 (rq Q h0 1) x6_2.toNatClampNeg)), (0, .ref (ad h0)), (1, .ref (ad h1)), (2, .ref (ad h2)), (3, .int x3), (4, .int ((I h1 4) - r1)), (5, .int x5_2), (6, .int x6_2)]) C dX5_deliver_49 (by decide) rfl ?_
          have K101_u46 : ∀ (I_47 : KI) (x5_47 : Int32), (wp_X5_deliver_L17 Q h0 h1 h2 x3 ((I h1 4) - r1) post n17 I_47 x5_47 (x6_2 + (1 : Int32))) → WF Z N T Q → GG p l e ({ frames := 3, cells := 0, slots := 0, locals := 68 }) s m [.ref (ad h0), .ref (ad h1), .ref (ad h2), .int x3].toArray below meth c 9 A D D2 0 0 (MQ below (va_Qi (fun (r : Int32) (u : KS) => post r u.1 ∧ u.2.1 = J ∧ u.2.2 = Q ∧ WF Z N T u.2.2) (Bw D D2 ad N T) A) [.ref (ad h0), .ref (ad h1), .ref (ad h2), .int x3].toArray s 0 0 A) ad N T I_47 J Q 101 [(0, .ref (ad h0)), (1, .ref (ad h1)), (2, .ref (ad h2)), (3, .int x3), (4, .int ((I h1 4) - r1)), (5, .int x5_47), (6, .int x6_2)] [] := by
            intro I_47 x5_47 hw hWF
            refine g_iinc (v := (x6_2 + (1 : Int32))) (lv' := [(6, .int (x6_2 + (1 : Int32))), (0, .ref (ad h0)), (1, .ref (ad h1)), (2, .ref (ad h2)), (3, .int x3), (4, .int ((I h1 4) - r1)), (5, .int x5_47)]) C dX5_deliver_101 (q := 6) rfl rfl (by decide) rfl ?_
            refine g_goto C dX5_deliver_104 (tgt := 17) (by decide) ?_
            refine g_sub [1, 2, 3, 4, 5, 6, 0] rfl ?_
            exact ih_u30 I_47 x5_47 (x6_2 + (1 : Int32)) hw hWF
          have L51_u46 : ∀ (n51 : Nat) (I_6 : KI) (x5_6 : Int32) (x8_6 : Int32), wp_X5_deliver_L51 Q h0 h2 ((I h1 4) - r1) x6_2 (I_2 (rq Q h0 1) x6_2.toNatClampNeg) (fun I_47 x5_47 => wp_X5_deliver_L17 Q h0 h1 h2 x3 ((I h1 4) - r1) post n17 I_47 x5_47 (x6_2 + (1 : Int32))) n51 I_6 x5_6 x8_6 → WF Z N T Q → GG p l e ({ frames := 3, cells := 0, slots := 0, locals := 68 }) s m [.ref (ad h0), .ref (ad h1), .ref (ad h2), .int x3].toArray below meth c 9 A D D2 0 0 (MQ below (va_Qi (fun (r : Int32) (u : KS) => post r u.1 ∧ u.2.1 = J ∧ u.2.2 = Q ∧ WF Z N T u.2.2) (Bw D D2 ad N T) A) [.ref (ad h0), .ref (ad h1), .ref (ad h2), .int x3].toArray s 0 0 A) ad N T I_6 J Q 51 [(0, .ref (ad h0)), (1, .ref (ad h1)), (2, .ref (ad h2)), (3, .int x3), (4, .int ((I h1 4) - r1)), (5, .int x5_6), (6, .int x6_2), (7, .int (I_2 (rq Q h0 1) x6_2.toNatClampNeg)), (8, .int x8_6)] [] := by
            intro n51
            induction n51 with
            | zero => intro I_6 x5_6 x8_6 hw; exact hw.elim
            | succ n51 ih_u46 =>
              intro I_6 x5_6 x8_6 hw hWF
              unfold wp_X5_deliver_L51 at hw
              refine g_iload C dX5_deliver_51 8 rfl ?_
              refine g_iload C dX5_deliver_53 7 rfl ?_
              refine g_icmp_ge (tgt := 101) C dX5_deliver_55 (by decide) (fun c49 => ?_) (fun c49 => ?_)
              · have hw := hw.1 c49
                refine g_sub [0, 1, 2, 3, 4, 5, 6] rfl ?_
                exact K101_u46 I_6 x5_6 hw hWF
              · have hw := hw.2 c49
                refine g_iload C dX5_deliver_58 5 rfl ?_
                refine g_iload C dX5_deliver_60 4 rfl ?_
                refine g_icmp_ge (tgt := 101) C dX5_deliver_62 (by decide) (fun c50 => ?_) (fun c50 => ?_)
                · have hw := hw.1 c50
                  refine g_sub [0, 1, 2, 3, 4, 5, 6] rfl ?_
                  exact K101_u46 I_6 x5_6 hw hWF
                · have hw := hw.2 c50
                  refine g_iload C dX5_deliver_65 5 rfl ?_
                  refine g_aload_n C dX5_deliver_67 rfl 2 rfl ?_
                  refine g_aload_n C dX5_deliver_68 rfl 0 rfl ?_
                  refine g_getQ C dX5_deliver_69 ft_25 z0 (hWF.q z0 0 rfl) ?_
                  have zz51 := hWF.r z0 0 rfl
                  refine g_iload C dX5_deliver_72 6 rfl ?_
                  refine g_bipush (v := (8 : Int32)) C dX5_deliver_74 (by decide) ?_
                  refine g_imul C dX5_deliver_76 ?_
                  refine g_iload C dX5_deliver_77 8 rfl ?_
                  refine g_iadd C dX5_deliver_79 ?_
                  refine g_iald C dX5_deliver_80 zz51 hw.1 ?_
                  have hw := hw.2
                  refine g_callVi (As := [.int (I_6 (rq Q h0 0) ((x6_2 * (8 : Int32)) + x8_6).toNatClampNeg)]) C dX5_deliver_81 ft_22 z2 ft_27 ft_28 (met_X7_add l hWF z2 hw) ⟨rfl, rfl, Nat.le_of_ble_eq_true rfl, Nat.le_of_ble_eq_true rfl⟩ ⟨Nat.zero_le _, Nat.zero_le _⟩ rfl rfl (Nat.le_of_ble_eq_true rfl) (fun r52 I52 J52 Q52 hp => ?_)
                  obtain ⟨hw, eJ, eQ, hWF⟩ := hp
                  have eJ : J = J52 := Eq.symm eJ
                  subst eJ
                  have eQ : Q = Q52 := Eq.symm eQ
                  subst eQ
                  try dsimp only at hw hWF
                  refine g_if_eq (tgt := 91) C dX5_deliver_84 (by decide) (fun c53 => ?_) (fun c53 => ?_)
                  · have hw := hw.1 c53
                    refine g_iconst (v := (0 : Int32)) C dX5_deliver_91 (by decide) ?_
                    refine g_iadd C dX5_deliver_92 ?_
                    refine g_istore (lv' := [(5, .int (x5_6 + (0 : Int32))), (0, .ref (ad h0)), (1, .ref (ad h1)), (2, .ref (ad h2)), (3, .int x3), (4, .int ((I h1 4) - r1)), (6, .int x6_2), (7, .int (I_2 (rq Q h0 1) x6_2.toNatClampNeg)), (8, .int x8_6)]) C dX5_deliver_93 (by decide) rfl ?_
                    refine g_iinc (v := (x8_6 + (1 : Int32))) (lv' := [(8, .int (x8_6 + (1 : Int32))), (5, .int (x5_6 + (0 : Int32))), (0, .ref (ad h0)), (1, .ref (ad h1)), (2, .ref (ad h2)), (3, .int x3), (4, .int ((I h1 4) - r1)), (6, .int x6_2), (7, .int (I_2 (rq Q h0 1) x6_2.toNatClampNeg))]) C dX5_deliver_95 (q := 8) rfl rfl (by decide) rfl ?_
                    refine g_goto C dX5_deliver_98 (tgt := 51) (by decide) ?_
                    refine g_sub [2, 3, 4, 5, 6, 1, 7, 8, 0] rfl ?_
                    exact ih_u46 I52 (x5_6 + (0 : Int32)) (x8_6 + (1 : Int32)) hw hWF
                  · have hw := hw.2 c53
                    refine g_iconst (v := (1 : Int32)) C dX5_deliver_87 (by decide) ?_
                    refine g_goto C dX5_deliver_88 (tgt := 92) (by decide) ?_
                    refine g_iadd C dX5_deliver_92 ?_
                    refine g_istore (lv' := [(5, .int (x5_6 + (1 : Int32))), (0, .ref (ad h0)), (1, .ref (ad h1)), (2, .ref (ad h2)), (3, .int x3), (4, .int ((I h1 4) - r1)), (6, .int x6_2), (7, .int (I_2 (rq Q h0 1) x6_2.toNatClampNeg)), (8, .int x8_6)]) C dX5_deliver_93 (by decide) rfl ?_
                    refine g_iinc (v := (x8_6 + (1 : Int32))) (lv' := [(8, .int (x8_6 + (1 : Int32))), (5, .int (x5_6 + (1 : Int32))), (0, .ref (ad h0)), (1, .ref (ad h1)), (2, .ref (ad h2)), (3, .int x3), (4, .int ((I h1 4) - r1)), (6, .int x6_2), (7, .int (I_2 (rq Q h0 1) x6_2.toNatClampNeg))]) C dX5_deliver_95 (q := 8) rfl rfl (by decide) rfl ?_
                    refine g_goto C dX5_deliver_98 (tgt := 51) (by decide) ?_
                    refine g_sub [2, 3, 4, 5, 6, 1, 7, 8, 0] rfl ?_
                    exact ih_u46 I52 (x5_6 + (1 : Int32)) (x8_6 + (1 : Int32)) hw hWF
          obtain ⟨n_u46, hw⟩ := hw
          refine g_sub [2, 3, 4, 5, 6, 7, 8, 1, 0] rfl ?_
          exact L51_u46 n_u46 I_2 x5_2 (0 : Int32) hw hWF
  obtain ⟨n_u30, hw⟩ := hw
  refine g_sub [3, 4, 5, 6, 2, 1, 0] rfl ?_
  exact L17_u30 n_u30 I (0 : Int32) (0 : Int32) hw hWF
def wp_X5_growth (I : KI) (Q : KQ) (h0 : Nat) (h1 : Nat) (x2 : Int32) (x3 : Int32) (post : Int32 → KI → Prop) : Prop := (vp_in x2 6 ∧ wp_X7_take I Q (rq Q h0 2) (rq Q (rq Q h1 1) x2.toNatClampNeg) (fun I4 => wp_X5_deliver I4 Q h0 h1 (rq Q h0 2) x3 (fun r6 I6 => post r6 I6)))
set_option maxHeartbeats 4000000 in
set_option maxRecDepth 100000 in
theorem met_X5_growth {Z : Nat → Prop} {A : Nat → Prop} {D : va_G} {D2 : Nat → ClassId} {ad : Nat → Nat} {N : Nat} {T : Nat → Nat × Nat} (l : Launch) {I : KI} {J : KJ} {Q : KQ} {h0 : Nat} {h1 : Nat} {x2 : Int32} {x3 : Int32} {post : Int32 → KI → Prop} (hWF : WF Z N T Q) (z0 : OKr Z N T h0 (5, 0)) (z1 : OKr Z N T h1 (1, 0)) (hw : wp_X5_growth I Q h0 h1 x2 x3 post) : Met l yX5_growth (.code yX5_growth cX5_growth 4 (some .int) :: BIG) ({ frames := 4, cells := 0, slots := 0, locals := 96 }) (Pr D D2 A ad N T I J Q [.ref (ad h0), .ref (ad h1), .int x2, .int x3]) (va_Qi (fun (r : Int32) (u : KS) => post r u.1 ∧ u.2.1 = J ∧ u.2.2 = Q ∧ WF Z N T u.2.2) (Bw D D2 ad N T) A) 0 0 A := by
  refine Met_GG (lv0 := [(0, .ref (ad h0)), (1, .ref (ad h1)), (2, .int x2), (3, .int x3)]) (by decide +kernel) [.ref (ad h0), .ref (ad h1), .int x2, .int x3] (Nat.le_of_ble_eq_true rfl) rfl ?_
  intro p e s m below meth c C hr
  have C : CX p s m [.ref (ad h0), .ref (ad h1), .int x2, .int x3].toArray meth c cX5_growth 4 RX5 A D D2 := C
  unfold wp_X5_growth at hw
  refine g_aload_n C dX5_growth_0 rfl 0 rfl ?_
  refine g_getQ C dX5_growth_1 ft_33 z0 (hWF.q z0 2 rfl) ?_
  have zz1 := hWF.r z0 2 rfl
  refine g_aload_n C dX5_growth_4 rfl 1 rfl ?_
  refine g_getQ C dX5_growth_5 ft_34 z1 (hWF.q z1 1 rfl) ?_
  have zz2 := hWF.r z1 1 rfl
  refine g_iload_n C dX5_growth_8 rfl 2 rfl ?_
  have hrzz3 := rft_eS hw.1
  refine g_aaldS C dX5_growth_9 zz2 hw.1 (hWF.q zz2 _ hrzz3) ?_
  have zz3 := hWF.r zz2 _ hrzz3
  have hw := hw.2
  refine g_callVv (As := [.ref (ad (rq Q (rq Q h1 1) x2.toNatClampNeg))]) C dX5_growth_10 ft_22 zz1 ft_38 ft_39 (met_X7_take l hWF zz1 zz3 hw) ⟨rfl, rfl, Nat.le_of_ble_eq_true rfl, Nat.le_of_ble_eq_true rfl⟩ ⟨Nat.zero_le _, Nat.zero_le _⟩ rfl rfl (Nat.le_of_ble_eq_true rfl) (fun I4 J4 Q4 hp => ?_)
  obtain ⟨hw, eJ, eQ, hWF⟩ := hp
  have eJ : J = J4 := Eq.symm eJ
  subst eJ
  have eQ : Q = Q4 := Eq.symm eQ
  subst eQ
  try dsimp only at hw hWF
  refine g_aload_n C dX5_growth_13 rfl 0 rfl ?_
  refine g_aload_n C dX5_growth_14 rfl 1 rfl ?_
  refine g_aload_n C dX5_growth_15 rfl 0 rfl ?_
  refine g_getQ C dX5_growth_16 ft_33 z0 (hWF.q z0 2 rfl) ?_
  have zz5 := hWF.r z0 2 rfl
  refine g_iload_n C dX5_growth_19 rfl 3 rfl ?_
  refine g_callVi (As := [.ref (ad h1), .ref (ad (rq Q h0 2)), .int x3]) C dX5_growth_20 ft_37 z0 ft_35 ft_36 (met_X5_deliver l hWF z0 z1 zz5 hw) ⟨rfl, rfl, Nat.le_of_ble_eq_true rfl, Nat.le_of_ble_eq_true rfl⟩ ⟨Nat.zero_le _, Nat.zero_le _⟩ rfl rfl (Nat.le_of_ble_eq_true rfl) (fun r6 I6 J6 Q6 hp => ?_)
  obtain ⟨hw, eJ, eQ, hWF⟩ := hp
  have eJ : J = J6 := Eq.symm eJ
  subst eJ
  have eQ : Q = Q6 := Eq.symm eQ
  subst eQ
  try dsimp only at hw hWF
  exact g_iret C dX5_growth_23 hr ⟨hw, rfl, rfl, hWF⟩
def wp_X0_present_L5 (Qf_1 : KQ) (f1_1 : Nat) (f2_1 : Nat) (post : Int32 → KI → Prop) : Nat → KI → Int32 → Int32 → Prop
  | 0, _, _, _ => False
  | n5 + 1, I_1, x3_1, x4_1 => (((I_1 f1_1 3) ≤ x4_1 → post x3_1 I_1) ∧ (¬ (I_1 f1_1 3) ≤ x4_1 → wp_X1_neighbours I_1 Qf_1 f1_1 (I_1 f1_1 7) x4_1 (fun r3 => wp_X5_growth I_1 Qf_1 f2_1 f1_1 x4_1 r3 (fun r4 I4 => wp_X0_present_L5 Qf_1 f1_1 f2_1 post n5 I4 (x3_1 + r4) (x4_1 + (1 : Int32))))))
def wp_X0_present (I : KI) (Q : KQ) (h0 : Nat) (h1 : Nat) (h2 : Nat) (post : Int32 → KI → Prop) : Prop := (∃ q5, wp_X0_present_L5 Q h1 h2 post q5 I (0 : Int32) (0 : Int32))
set_option maxHeartbeats 4000000 in
set_option maxRecDepth 100000 in
theorem met_X0_present {Z : Nat → Prop} {A : Nat → Prop} {D : va_G} {D2 : Nat → ClassId} {ad : Nat → Nat} {N : Nat} {T : Nat → Nat × Nat} (l : Launch) {I : KI} {J : KJ} {Q : KQ} {h0 : Nat} {h1 : Nat} {h2 : Nat} {post : Int32 → KI → Prop} (hWF : WF Z N T Q) (z0 : OKr Z N T h0 (0, 0)) (z1 : OKr Z N T h1 (1, 0)) (z2 : OKr Z N T h2 (5, 0)) (hw : wp_X0_present I Q h0 h1 h2 post) : Met l yX0_present (.code yX0_present cX0_present 5 (some .int) :: BIG) ({ frames := 5, cells := 0, slots := 0, locals := 119 }) (Pr D D2 A ad N T I J Q [.ref (ad h0), .ref (ad h1), .ref (ad h2)]) (va_Qi (fun (r : Int32) (u : KS) => post r u.1 ∧ u.2.1 = J ∧ u.2.2 = Q ∧ WF Z N T u.2.2) (Bw D D2 ad N T) A) 0 0 A := by
  refine Met_GG (lv0 := [(0, .ref (ad h0)), (1, .ref (ad h1)), (2, .ref (ad h2))]) (by decide +kernel) [.ref (ad h0), .ref (ad h1), .ref (ad h2)] (Nat.le_of_ble_eq_true rfl) rfl ?_
  intro p e s m below meth c C hr
  have C : CX p s m [.ref (ad h0), .ref (ad h1), .ref (ad h2)].toArray meth c cX0_present 5 RX0 A D D2 := C
  unfold wp_X0_present at hw
  refine g_iconst (v := (0 : Int32)) C dX0_present_0 (by decide) ?_
  refine g_istore_n (lv' := [(3, .int (0 : Int32)), (0, .ref (ad h0)), (1, .ref (ad h1)), (2, .ref (ad h2))]) C dX0_present_1 rfl (by decide) rfl ?_
  refine g_iconst (v := (0 : Int32)) C dX0_present_2 (by decide) ?_
  refine g_istore (lv' := [(4, .int (0 : Int32)), (3, .int (0 : Int32)), (0, .ref (ad h0)), (1, .ref (ad h1)), (2, .ref (ad h2))]) C dX0_present_3 (by decide) rfl ?_
  have L5_u5 : ∀ (n5 : Nat) (I_1 : KI) (x3_1 : Int32) (x4_1 : Int32), wp_X0_present_L5 Q h1 h2 post n5 I_1 x3_1 x4_1 → WF Z N T Q → GG p l e ({ frames := 5, cells := 0, slots := 0, locals := 119 }) s m [.ref (ad h0), .ref (ad h1), .ref (ad h2)].toArray below meth c 5 A D D2 0 0 (MQ below (va_Qi (fun (r : Int32) (u : KS) => post r u.1 ∧ u.2.1 = J ∧ u.2.2 = Q ∧ WF Z N T u.2.2) (Bw D D2 ad N T) A) [.ref (ad h0), .ref (ad h1), .ref (ad h2)].toArray s 0 0 A) ad N T I_1 J Q 5 [(1, .ref (ad h1)), (2, .ref (ad h2)), (3, .int x3_1), (4, .int x4_1)] [] := by
    intro n5
    induction n5 with
    | zero => intro I_1 x3_1 x4_1 hw; exact hw.elim
    | succ n5 ih_u5 =>
      intro I_1 x3_1 x4_1 hw hWF
      unfold wp_X0_present_L5 at hw
      refine g_iload C dX0_present_5 3 rfl ?_
      refine g_aload_n C dX0_present_7 rfl 0 rfl ?_
      refine g_getI C dX0_present_8 ft_40 z1 ?_
      refine g_icmp_ge (tgt := 40) C dX0_present_11 (by decide) (fun c7 => ?_) (fun c7 => ?_)
      · have hw := hw.1 c7
        refine g_iload_n C dX0_present_40 rfl 2 rfl ?_
        exact g_iret C dX0_present_41 hr ⟨hw, rfl, rfl, hWF⟩
      · have hw := hw.2 c7
        refine g_iload_n C dX0_present_14 rfl 2 rfl ?_
        refine g_aload_n C dX0_present_15 rfl 1 rfl ?_
        refine g_aload_n C dX0_present_16 rfl 0 rfl ?_
        refine g_iload C dX0_present_17 3 rfl ?_
        refine g_aload_n C dX0_present_19 rfl 0 rfl ?_
        refine g_aload_n C dX0_present_20 rfl 0 rfl ?_
        refine g_getI C dX0_present_21 ft_41 z1 ?_
        refine g_iload C dX0_present_24 3 rfl ?_
        refine g_callVi (As := [.int (I_1 h1 7), .int x4_1]) C dX0_present_26 ft_46 z1 ft_44 ft_45 (met_X1_neighbours l hWF z1 hw) ⟨rfl, rfl, Nat.le_of_ble_eq_true rfl, Nat.le_of_ble_eq_true rfl⟩ ⟨Nat.zero_le _, Nat.zero_le _⟩ rfl rfl (Nat.le_of_ble_eq_true rfl) (fun r8 I8 J8 Q8 hp => ?_)
        obtain ⟨hw, eI, eJ, eQ, hWF⟩ := hp
        have eI : I_1 = I8 := Eq.symm eI
        subst eI
        have eJ : J = J8 := Eq.symm eJ
        subst eJ
        have eQ : Q = Q8 := Eq.symm eQ
        subst eQ
        try dsimp only at hw hWF
        refine g_callVi (As := [.ref (ad h1), .int x4_1, .int r8]) C dX0_present_29 ft_37 z2 ft_42 ft_43 (met_X5_growth l hWF z2 z1 hw) ⟨rfl, rfl, Nat.le_of_ble_eq_true rfl, Nat.le_of_ble_eq_true rfl⟩ ⟨Nat.zero_le _, Nat.zero_le _⟩ rfl rfl (Nat.le_of_ble_eq_true rfl) (fun r9 I9 J9 Q9 hp => ?_)
        obtain ⟨hw, eJ, eQ, hWF⟩ := hp
        have eJ : J = J9 := Eq.symm eJ
        subst eJ
        have eQ : Q = Q9 := Eq.symm eQ
        subst eQ
        try dsimp only at hw hWF
        refine g_iadd C dX0_present_32 ?_
        refine g_istore_n (lv' := [(3, .int (x3_1 + r9)), (1, .ref (ad h1)), (2, .ref (ad h2)), (4, .int x4_1)]) C dX0_present_33 rfl (by decide) rfl ?_
        refine g_iinc (v := (x4_1 + (1 : Int32))) (lv' := [(4, .int (x4_1 + (1 : Int32))), (3, .int (x3_1 + r9)), (1, .ref (ad h1)), (2, .ref (ad h2))]) C dX0_present_34 (q := 3) rfl rfl (by decide) rfl ?_
        refine g_goto C dX0_present_37 (tgt := 5) (by decide) ?_
        refine g_sub [2, 3, 1, 0] rfl ?_
        exact ih_u5 I9 (x3_1 + r9) (x4_1 + (1 : Int32)) hw hWF
  obtain ⟨n_u5, hw⟩ := hw
  refine g_sub [3, 4, 1, 0] rfl ?_
  exact L5_u5 n_u5 I (0 : Int32) (0 : Int32) hw hWF
def wp_X0_best_L5 (Qf_1 : KQ) (f1_1 : Nat) (f2_1 : Nat) (post : Int32 → KI → Prop) : Nat → KI → Int32 → Int32 → Prop
  | 0, _, _, _ => False
  | n5 + 1, I_1, x3_1, x4_1 => (((I_1 f1_1 3) ≤ x4_1 → post x3_1 I_1) ∧ (¬ (I_1 f1_1 3) ≤ x4_1 → wp_X5_growth I_1 Qf_1 f2_1 f1_1 x4_1 ((((1 : Int32) <<< ((I_1 f1_1 3) &&& 31)) - (1 : Int32)) ^^^ ((1 : Int32) <<< (x4_1 &&& 31))) (fun r3 I3 => wp_X0_best_L5 Qf_1 f1_1 f2_1 post n5 I3 (x3_1 + r3) (x4_1 + (1 : Int32)))))
def wp_X0_best (I : KI) (Q : KQ) (h0 : Nat) (h1 : Nat) (h2 : Nat) (post : Int32 → KI → Prop) : Prop := (∃ q5, wp_X0_best_L5 Q h1 h2 post q5 I (0 : Int32) (0 : Int32))
set_option maxHeartbeats 4000000 in
set_option maxRecDepth 100000 in
theorem met_X0_best {Z : Nat → Prop} {A : Nat → Prop} {D : va_G} {D2 : Nat → ClassId} {ad : Nat → Nat} {N : Nat} {T : Nat → Nat × Nat} (l : Launch) {I : KI} {J : KJ} {Q : KQ} {h0 : Nat} {h1 : Nat} {h2 : Nat} {post : Int32 → KI → Prop} (hWF : WF Z N T Q) (z0 : OKr Z N T h0 (0, 0)) (z1 : OKr Z N T h1 (1, 0)) (z2 : OKr Z N T h2 (5, 0)) (hw : wp_X0_best I Q h0 h1 h2 post) : Met l yX0_best (.code yX0_best cX0_best 5 (some .int) :: BIG) ({ frames := 5, cells := 0, slots := 0, locals := 119 }) (Pr D D2 A ad N T I J Q [.ref (ad h0), .ref (ad h1), .ref (ad h2)]) (va_Qi (fun (r : Int32) (u : KS) => post r u.1 ∧ u.2.1 = J ∧ u.2.2 = Q ∧ WF Z N T u.2.2) (Bw D D2 ad N T) A) 0 0 A := by
  refine Met_GG (lv0 := [(0, .ref (ad h0)), (1, .ref (ad h1)), (2, .ref (ad h2))]) (by decide +kernel) [.ref (ad h0), .ref (ad h1), .ref (ad h2)] (Nat.le_of_ble_eq_true rfl) rfl ?_
  intro p e s m below meth c C hr
  have C : CX p s m [.ref (ad h0), .ref (ad h1), .ref (ad h2)].toArray meth c cX0_best 5 RX0 A D D2 := C
  unfold wp_X0_best at hw
  refine g_iconst (v := (0 : Int32)) C dX0_best_0 (by decide) ?_
  refine g_istore_n (lv' := [(3, .int (0 : Int32)), (0, .ref (ad h0)), (1, .ref (ad h1)), (2, .ref (ad h2))]) C dX0_best_1 rfl (by decide) rfl ?_
  refine g_iconst (v := (0 : Int32)) C dX0_best_2 (by decide) ?_
  refine g_istore (lv' := [(4, .int (0 : Int32)), (3, .int (0 : Int32)), (0, .ref (ad h0)), (1, .ref (ad h1)), (2, .ref (ad h2))]) C dX0_best_3 (by decide) rfl ?_
  have L5_u4 : ∀ (n5 : Nat) (I_1 : KI) (x3_1 : Int32) (x4_1 : Int32), wp_X0_best_L5 Q h1 h2 post n5 I_1 x3_1 x4_1 → WF Z N T Q → GG p l e ({ frames := 5, cells := 0, slots := 0, locals := 119 }) s m [.ref (ad h0), .ref (ad h1), .ref (ad h2)].toArray below meth c 5 A D D2 0 0 (MQ below (va_Qi (fun (r : Int32) (u : KS) => post r u.1 ∧ u.2.1 = J ∧ u.2.2 = Q ∧ WF Z N T u.2.2) (Bw D D2 ad N T) A) [.ref (ad h0), .ref (ad h1), .ref (ad h2)].toArray s 0 0 A) ad N T I_1 J Q 5 [(1, .ref (ad h1)), (2, .ref (ad h2)), (3, .int x3_1), (4, .int x4_1)] [] := by
    intro n5
    induction n5 with
    | zero => intro I_1 x3_1 x4_1 hw; exact hw.elim
    | succ n5 ih_u4 =>
      intro I_1 x3_1 x4_1 hw hWF
      unfold wp_X0_best_L5 at hw
      refine g_iload C dX0_best_5 3 rfl ?_
      refine g_aload_n C dX0_best_7 rfl 0 rfl ?_
      refine g_getI C dX0_best_8 ft_40 z1 ?_
      refine g_icmp_ge (tgt := 43) C dX0_best_11 (by decide) (fun c6 => ?_) (fun c6 => ?_)
      · have hw := hw.1 c6
        refine g_iload_n C dX0_best_43 rfl 2 rfl ?_
        exact g_iret C dX0_best_44 hr ⟨hw, rfl, rfl, hWF⟩
      · have hw := hw.2 c6
        refine g_iload_n C dX0_best_14 rfl 2 rfl ?_
        refine g_aload_n C dX0_best_15 rfl 1 rfl ?_
        refine g_aload_n C dX0_best_16 rfl 0 rfl ?_
        refine g_iload C dX0_best_17 3 rfl ?_
        refine g_iconst (v := (1 : Int32)) C dX0_best_19 (by decide) ?_
        refine g_aload_n C dX0_best_20 rfl 0 rfl ?_
        refine g_getI C dX0_best_21 ft_40 z1 ?_
        refine g_ishl C dX0_best_24 ?_
        refine g_iconst (v := (1 : Int32)) C dX0_best_25 (by decide) ?_
        refine g_isub C dX0_best_26 ?_
        refine g_iconst (v := (1 : Int32)) C dX0_best_27 (by decide) ?_
        refine g_iload C dX0_best_28 3 rfl ?_
        refine g_ishl C dX0_best_30 ?_
        refine g_ixor C dX0_best_31 ?_
        refine g_callVi (As := [.ref (ad h1), .int x4_1, .int ((((1 : Int32) <<< ((I_1 h1 3) &&& 31)) - (1 : Int32)) ^^^ ((1 : Int32) <<< (x4_1 &&& 31)))]) C dX0_best_32 ft_37 z2 ft_42 ft_43 (met_X5_growth l hWF z2 z1 hw) ⟨rfl, rfl, Nat.le_of_ble_eq_true rfl, Nat.le_of_ble_eq_true rfl⟩ ⟨Nat.zero_le _, Nat.zero_le _⟩ rfl rfl (Nat.le_of_ble_eq_true rfl) (fun r7 I7 J7 Q7 hp => ?_)
        obtain ⟨hw, eJ, eQ, hWF⟩ := hp
        have eJ : J = J7 := Eq.symm eJ
        subst eJ
        have eQ : Q = Q7 := Eq.symm eQ
        subst eQ
        try dsimp only at hw hWF
        refine g_iadd C dX0_best_35 ?_
        refine g_istore_n (lv' := [(3, .int (x3_1 + r7)), (1, .ref (ad h1)), (2, .ref (ad h2)), (4, .int x4_1)]) C dX0_best_36 rfl (by decide) rfl ?_
        refine g_iinc (v := (x4_1 + (1 : Int32))) (lv' := [(4, .int (x4_1 + (1 : Int32))), (3, .int (x3_1 + r7)), (1, .ref (ad h1)), (2, .ref (ad h2))]) C dX0_best_37 (q := 3) rfl rfl (by decide) rfl ?_
        refine g_goto C dX0_best_40 (tgt := 5) (by decide) ?_
        refine g_sub [2, 3, 1, 0] rfl ?_
        exact ih_u4 I7 (x3_1 + r7) (x4_1 + (1 : Int32)) hw hWF
  obtain ⟨n_u4, hw⟩ := hw
  refine g_sub [3, 4, 1, 0] rfl ?_
  exact L5_u4 n_u4 I (0 : Int32) (0 : Int32) hw hWF
def wp_X0_countDegrees_L2 (Qf_1 : KQ) (f0_1 : Nat) (f2_1 : Int32) (k27 : KI → Prop) : Nat → KI → Int32 → Prop
  | 0, _, _ => False
  | n2 + 1, I_1, x3_1 => ((f2_1 ≤ x3_1 → k27 I_1) ∧ (¬ f2_1 ≤ x3_1 → (vp_in x3_1 6 ∧ (vp_in x3_1 6 ∧ wp_X0_countDegrees_L2 Qf_1 f0_1 f2_1 k27 n2 (sti (sti I_1 (rq Qf_1 f0_1 1) x3_1.toNatClampNeg (1 : Int32)) (rq Qf_1 f0_1 2) x3_1.toNatClampNeg (0 : Int32)) (x3_1 + (1 : Int32))))))
def wp_X0_countDegrees_L32 (Qf_7 : KQ) (f0_7 : Nat) (f2_7 : Int32) (post : KI → Prop) : Nat → KI → Int32 → Int32 → Prop
  | 0, _, _, _ => False
  | n32 + 1, I_7, x3_7, x4_7 => ((f2_7 ≤ x4_7 → post I_7) ∧ (¬ f2_7 ≤ x4_7 → wp_X10_leftOver x3_7 f2_7 (fun r10 => (vp_in r10 6 ∧ (vp_in r10 6 ∧ (((1 : Int32) ≤ f2_7 → (¬ f2_7 = 0 ∧ wp_X0_countDegrees_L32 Qf_7 f0_7 f2_7 post n32 (sti I_7 (rq Qf_7 f0_7 1) r10.toNatClampNeg ((I_7 (rq Qf_7 f0_7 1) r10.toNatClampNeg) + (1 : Int32))) (x3_7 / f2_7) (x4_7 + (1 : Int32)))) ∧ (¬ (1 : Int32) ≤ f2_7 → wp_X0_countDegrees_L32 Qf_7 f0_7 f2_7 post n32 (sti I_7 (rq Qf_7 f0_7 1) r10.toNatClampNeg ((I_7 (rq Qf_7 f0_7 1) r10.toNatClampNeg) + (1 : Int32))) (x3_7 / (1 : Int32)) (x4_7 + (1 : Int32)))))))))
def wp_X0_countDegrees (I : KI) (Q : KQ) (h0 : Nat) (x1 : Int32) (x2 : Int32) (post : KI → Prop) : Prop := (∃ q2, wp_X0_countDegrees_L2 Q h0 x2 (fun I_6 => (∃ q32, wp_X0_countDegrees_L32 Q h0 x2 post q32 I_6 x1 (2 : Int32))) q2 I (0 : Int32))
set_option maxHeartbeats 4000000 in
set_option maxRecDepth 100000 in
theorem met_X0_countDegrees {Z : Nat → Prop} {A : Nat → Prop} {D : va_G} {D2 : Nat → ClassId} {ad : Nat → Nat} {N : Nat} {T : Nat → Nat × Nat} (l : Launch) {I : KI} {J : KJ} {Q : KQ} {h0 : Nat} {x1 : Int32} {x2 : Int32} {post : KI → Prop} (hWF : WF Z N T Q) (z0 : OKr Z N T h0 (0, 0)) (hw : wp_X0_countDegrees I Q h0 x1 x2 post) : Met l yX0_countDegrees (.code yX0_countDegrees cX0_countDegrees 5 none :: BIG) ({ frames := 2, cells := 0, slots := 0, locals := 43 }) (Pr D D2 A ad N T I J Q [.ref (ad h0), .int x1, .int x2]) (va_Qv (fun (u : KS) => post u.1 ∧ u.2.1 = J ∧ u.2.2 = Q ∧ WF Z N T u.2.2) (Bw D D2 ad N T) A) 0 0 A := by
  refine Met_GG (lv0 := [(0, .ref (ad h0)), (1, .int x1), (2, .int x2)]) (by decide +kernel) [.ref (ad h0), .int x1, .int x2] (Nat.le_of_ble_eq_true rfl) rfl ?_
  intro p e s m below meth c C hr
  have C : CX p s m [.ref (ad h0), .int x1, .int x2].toArray meth c cX0_countDegrees 5 RX0 A D D2 := C
  unfold wp_X0_countDegrees at hw
  refine g_iconst (v := (0 : Int32)) C dX0_countDegrees_0 (by decide) ?_
  refine g_istore_n (lv' := [(3, .int (0 : Int32)), (0, .ref (ad h0)), (1, .int x1), (2, .int x2)]) C dX0_countDegrees_1 rfl (by decide) rfl ?_
  have K27_u5 : ∀ (I_6 : KI), ((∃ q32, wp_X0_countDegrees_L32 Q h0 x2 post q32 I_6 x1 (2 : Int32))) → WF Z N T Q → GG p l e ({ frames := 2, cells := 0, slots := 0, locals := 43 }) s m [.ref (ad h0), .int x1, .int x2].toArray below meth c 5 A D D2 0 0 (MQ below (va_Qv (fun (u : KS) => post u.1 ∧ u.2.1 = J ∧ u.2.2 = Q ∧ WF Z N T u.2.2) (Bw D D2 ad N T) A) [.ref (ad h0), .int x1, .int x2].toArray s 0 0 A) ad N T I_6 J Q 27 [(0, .ref (ad h0)), (1, .int x1), (2, .int x2)] [] := by
    intro I_6 hw hWF
    refine g_iload_n C dX0_countDegrees_27 rfl 1 rfl ?_
    refine g_istore_n (lv' := [(3, .int x1), (0, .ref (ad h0)), (1, .int x1), (2, .int x2)]) C dX0_countDegrees_28 rfl (by decide) rfl ?_
    refine g_iconst (v := (2 : Int32)) C dX0_countDegrees_29 (by decide) ?_
    refine g_istore (lv' := [(4, .int (2 : Int32)), (3, .int x1), (0, .ref (ad h0)), (1, .int x1), (2, .int x2)]) C dX0_countDegrees_30 (by decide) rfl ?_
    have L32_u12 : ∀ (n32 : Nat) (I_7 : KI) (x3_7 : Int32) (x4_7 : Int32), wp_X0_countDegrees_L32 Q h0 x2 post n32 I_7 x3_7 x4_7 → WF Z N T Q → GG p l e ({ frames := 2, cells := 0, slots := 0, locals := 43 }) s m [.ref (ad h0), .int x1, .int x2].toArray below meth c 5 A D D2 0 0 (MQ below (va_Qv (fun (u : KS) => post u.1 ∧ u.2.1 = J ∧ u.2.2 = Q ∧ WF Z N T u.2.2) (Bw D D2 ad N T) A) [.ref (ad h0), .int x1, .int x2].toArray s 0 0 A) ad N T I_7 J Q 32 [(0, .ref (ad h0)), (2, .int x2), (3, .int x3_7), (4, .int x4_7)] [] := by
      intro n32
      induction n32 with
      | zero => intro I_7 x3_7 x4_7 hw; exact hw.elim
      | succ n32 ih_u12 =>
        intro I_7 x3_7 x4_7 hw hWF
        unfold wp_X0_countDegrees_L32 at hw
        refine g_iload C dX0_countDegrees_32 3 rfl ?_
        refine g_iload_n C dX0_countDegrees_34 rfl 1 rfl ?_
        refine g_icmp_ge (tgt := 71) C dX0_countDegrees_35 (by decide) (fun c14 => ?_) (fun c14 => ?_)
        · have hw := hw.1 c14
          exact g_vret C dX0_countDegrees_71 hr ⟨hw, rfl, rfl, hWF⟩
        · have hw := hw.2 c14
          refine g_aload_n C dX0_countDegrees_38 rfl 0 rfl ?_
          refine g_getQ C dX0_countDegrees_39 ft_47 z0 (hWF.q z0 1 rfl) ?_
          have zz15 := hWF.r z0 1 rfl
          refine g_iload_n C dX0_countDegrees_42 rfl 2 rfl ?_
          refine g_iload_n C dX0_countDegrees_43 rfl 1 rfl ?_
          refine g_callSNi (As := [.int x3_7, .int x2]) C dX0_countDegrees_44 ft_50 ft_12 (met_X10_leftOver l hWF  hw) ⟨rfl, rfl, Nat.le_of_ble_eq_true rfl, Nat.le_of_ble_eq_true rfl⟩ ⟨Nat.zero_le _, Nat.zero_le _⟩ rfl rfl (Nat.le_of_ble_eq_true rfl) (fun r16 I16 J16 Q16 hp => ?_)
          obtain ⟨hw, eI, eJ, eQ, hWF⟩ := hp
          have eI : I_7 = I16 := Eq.symm eI
          subst eI
          have eJ : J = J16 := Eq.symm eJ
          subst eJ
          have eQ : Q = Q16 := Eq.symm eQ
          subst eQ
          try dsimp only at hw hWF
          refine g_dup2 C dX0_countDegrees_47 rfl rfl ?_
          refine g_iald C dX0_countDegrees_48 zz15 hw.1 ?_
          have hw := hw.2
          refine g_iconst (v := (1 : Int32)) C dX0_countDegrees_49 (by decide) ?_
          refine g_iadd C dX0_countDegrees_50 ?_
          refine g_iast C dX0_countDegrees_51 zz15 hw.1 ?_
          have hw := hw.2
          refine g_iload_n C dX0_countDegrees_52 rfl 2 rfl ?_
          refine g_iload_n C dX0_countDegrees_53 rfl 1 rfl ?_
          refine g_iconst (v := (1 : Int32)) C dX0_countDegrees_54 (by decide) ?_
          refine g_icmp_ge (tgt := 62) C dX0_countDegrees_55 (by decide) (fun c17 => ?_) (fun c17 => ?_)
          · have hw := hw.1 c17
            refine g_iload_n C dX0_countDegrees_62 rfl 1 rfl ?_
            refine g_idiv C dX0_countDegrees_63 hw.1 ?_
            have hw := hw.2
            refine g_istore_n (lv' := [(3, .int (x3_7 / x2)), (0, .ref (ad h0)), (2, .int x2), (4, .int x4_7)]) C dX0_countDegrees_64 rfl (by decide) rfl ?_
            refine g_iinc (v := (x4_7 + (1 : Int32))) (lv' := [(4, .int (x4_7 + (1 : Int32))), (3, .int (x3_7 / x2)), (0, .ref (ad h0)), (2, .int x2)]) C dX0_countDegrees_65 (q := 3) rfl rfl (by decide) rfl ?_
            refine g_goto C dX0_countDegrees_68 (tgt := 32) (by decide) ?_
            refine g_sub [2, 3, 1, 0] rfl ?_
            exact ih_u12 (sti I_7 (rq Q h0 1) r16.toNatClampNeg ((I_7 (rq Q h0 1) r16.toNatClampNeg) + (1 : Int32))) (x3_7 / x2) (x4_7 + (1 : Int32)) hw hWF
          · have hw := hw.2 c17
            refine g_iconst (v := (1 : Int32)) C dX0_countDegrees_58 (by decide) ?_
            refine g_goto C dX0_countDegrees_59 (tgt := 63) (by decide) ?_
            refine g_idiv C dX0_countDegrees_63 (by decide) ?_
            refine g_istore_n (lv' := [(3, .int (x3_7 / (1 : Int32))), (0, .ref (ad h0)), (2, .int x2), (4, .int x4_7)]) C dX0_countDegrees_64 rfl (by decide) rfl ?_
            refine g_iinc (v := (x4_7 + (1 : Int32))) (lv' := [(4, .int (x4_7 + (1 : Int32))), (3, .int (x3_7 / (1 : Int32))), (0, .ref (ad h0)), (2, .int x2)]) C dX0_countDegrees_65 (q := 3) rfl rfl (by decide) rfl ?_
            refine g_goto C dX0_countDegrees_68 (tgt := 32) (by decide) ?_
            refine g_sub [2, 3, 1, 0] rfl ?_
            exact ih_u12 (sti I_7 (rq Q h0 1) r16.toNatClampNeg ((I_7 (rq Q h0 1) r16.toNatClampNeg) + (1 : Int32))) (x3_7 / (1 : Int32)) (x4_7 + (1 : Int32)) hw hWF
    obtain ⟨n_u12, hw⟩ := hw
    refine g_sub [2, 4, 1, 0] rfl ?_
    exact L32_u12 n_u12 I_6 x1 (2 : Int32) hw hWF
  have L2_u5 : ∀ (n2 : Nat) (I_1 : KI) (x3_1 : Int32), wp_X0_countDegrees_L2 Q h0 x2 (fun I_6 => (∃ q32, wp_X0_countDegrees_L32 Q h0 x2 post q32 I_6 x1 (2 : Int32))) n2 I_1 x3_1 → WF Z N T Q → GG p l e ({ frames := 2, cells := 0, slots := 0, locals := 43 }) s m [.ref (ad h0), .int x1, .int x2].toArray below meth c 5 A D D2 0 0 (MQ below (va_Qv (fun (u : KS) => post u.1 ∧ u.2.1 = J ∧ u.2.2 = Q ∧ WF Z N T u.2.2) (Bw D D2 ad N T) A) [.ref (ad h0), .int x1, .int x2].toArray s 0 0 A) ad N T I_1 J Q 2 [(0, .ref (ad h0)), (1, .int x1), (2, .int x2), (3, .int x3_1)] [] := by
    intro n2
    induction n2 with
    | zero => intro I_1 x3_1 hw; exact hw.elim
    | succ n2 ih_u5 =>
      intro I_1 x3_1 hw hWF
      unfold wp_X0_countDegrees_L2 at hw
      refine g_iload_n C dX0_countDegrees_2 rfl 3 rfl ?_
      refine g_iload_n C dX0_countDegrees_3 rfl 2 rfl ?_
      refine g_icmp_ge (tgt := 27) C dX0_countDegrees_4 (by decide) (fun c19 => ?_) (fun c19 => ?_)
      · have hw := hw.1 c19
        refine g_sub [0, 1, 2] rfl ?_
        exact K27_u5 I_1 hw hWF
      · have hw := hw.2 c19
        refine g_aload_n C dX0_countDegrees_7 rfl 0 rfl ?_
        refine g_getQ C dX0_countDegrees_8 ft_47 z0 (hWF.q z0 1 rfl) ?_
        have zz20 := hWF.r z0 1 rfl
        refine g_iload_n C dX0_countDegrees_11 rfl 3 rfl ?_
        refine g_iconst (v := (1 : Int32)) C dX0_countDegrees_12 (by decide) ?_
        refine g_iast C dX0_countDegrees_13 zz20 hw.1 ?_
        have hw := hw.2
        refine g_aload_n C dX0_countDegrees_14 rfl 0 rfl ?_
        refine g_getQ C dX0_countDegrees_15 ft_49 z0 (hWF.q z0 2 rfl) ?_
        have zz21 := hWF.r z0 2 rfl
        refine g_iload_n C dX0_countDegrees_18 rfl 3 rfl ?_
        refine g_iconst (v := (0 : Int32)) C dX0_countDegrees_19 (by decide) ?_
        refine g_iast C dX0_countDegrees_20 zz21 hw.1 ?_
        have hw := hw.2
        refine g_iinc (v := (x3_1 + (1 : Int32))) (lv' := [(3, .int (x3_1 + (1 : Int32))), (0, .ref (ad h0)), (1, .int x1), (2, .int x2)]) C dX0_countDegrees_21 (q := 3) rfl rfl (by decide) rfl ?_
        refine g_goto C dX0_countDegrees_24 (tgt := 2) (by decide) ?_
        refine g_sub [1, 2, 3, 0] rfl ?_
        exact ih_u5 (sti (sti I_1 (rq Q h0 1) x3_1.toNatClampNeg (1 : Int32)) (rq Q h0 2) x3_1.toNatClampNeg (0 : Int32)) (x3_1 + (1 : Int32)) hw hWF
  obtain ⟨n_u5, hw⟩ := hw
  refine g_sub [1, 2, 3, 0] rfl ?_
  exact L2_u5 n_u5 I (0 : Int32) hw hWF
def wp_X0_leafBehind_L4 (If_1 : KI) (Qf_1 : KQ) (f0_1 : Nat) (f2_1 : Int32) (post : Int32 → Prop) : Nat → Int32 → Prop
  | 0, _ => False
  | n4 + 1, x3_1 => ((f2_1 ≤ x3_1 → post (-1 : Int32)) ∧ (¬ f2_1 ≤ x3_1 → (vp_in x3_1 6 ∧ ((¬ (If_1 (rq Qf_1 f0_1 1) x3_1.toNatClampNeg) = (1 : Int32) → wp_X0_leafBehind_L4 If_1 Qf_1 f0_1 f2_1 post n4 (x3_1 + (1 : Int32))) ∧ ((If_1 (rq Qf_1 f0_1 1) x3_1.toNatClampNeg) = (1 : Int32) → post x3_1)))))
def wp_X0_leafBehind (I : KI) (Q : KQ) (h0 : Nat) (x1 : Int32) (x2 : Int32) (post : Int32 → Prop) : Prop := (∃ q4, wp_X0_leafBehind_L4 I Q h0 x2 post q4 (x1 + (1 : Int32)))
set_option maxHeartbeats 4000000 in
set_option maxRecDepth 100000 in
theorem met_X0_leafBehind {Z : Nat → Prop} {A : Nat → Prop} {D : va_G} {D2 : Nat → ClassId} {ad : Nat → Nat} {N : Nat} {T : Nat → Nat × Nat} (l : Launch) {I : KI} {J : KJ} {Q : KQ} {h0 : Nat} {x1 : Int32} {x2 : Int32} {post : Int32 → Prop} (hWF : WF Z N T Q) (z0 : OKr Z N T h0 (0, 0)) (hw : wp_X0_leafBehind I Q h0 x1 x2 post) : Met l yX0_leafBehind (.code yX0_leafBehind cX0_leafBehind 4 (some .int) :: BIG) ({ frames := 0, cells := 0, slots := 0, locals := 0 }) (Pr D D2 A ad N T I J Q [.ref (ad h0), .int x1, .int x2]) (va_Qi (fun (r : Int32) (u : KS) => post r ∧ u.1 = I ∧ u.2.1 = J ∧ u.2.2 = Q ∧ WF Z N T u.2.2) (Bw D D2 ad N T) A) 0 0 A := by
  refine Met_GG (lv0 := [(0, .ref (ad h0)), (1, .int x1), (2, .int x2)]) (by decide +kernel) [.ref (ad h0), .int x1, .int x2] (Nat.le_of_ble_eq_true rfl) rfl ?_
  intro p e s m below meth c C hr
  have C : CX p s m [.ref (ad h0), .int x1, .int x2].toArray meth c cX0_leafBehind 4 RX0 A D D2 := C
  unfold wp_X0_leafBehind at hw
  refine g_iload_n C dX0_leafBehind_0 rfl 1 rfl ?_
  refine g_iconst (v := (1 : Int32)) C dX0_leafBehind_1 (by decide) ?_
  refine g_iadd C dX0_leafBehind_2 ?_
  refine g_istore_n (lv' := [(3, .int (x1 + (1 : Int32))), (0, .ref (ad h0)), (1, .int x1), (2, .int x2)]) C dX0_leafBehind_3 rfl (by decide) rfl ?_
  have L4_u5 : ∀ (n4 : Nat) (x3_1 : Int32), wp_X0_leafBehind_L4 I Q h0 x2 post n4 x3_1 → WF Z N T Q → GG p l e ({ frames := 0, cells := 0, slots := 0, locals := 0 }) s m [.ref (ad h0), .int x1, .int x2].toArray below meth c 4 A D D2 0 0 (MQ below (va_Qi (fun (r : Int32) (u : KS) => post r ∧ u.1 = I ∧ u.2.1 = J ∧ u.2.2 = Q ∧ WF Z N T u.2.2) (Bw D D2 ad N T) A) [.ref (ad h0), .int x1, .int x2].toArray s 0 0 A) ad N T I J Q 4 [(0, .ref (ad h0)), (2, .int x2), (3, .int x3_1)] [] := by
    intro n4
    induction n4 with
    | zero => intro x3_1 hw; exact hw.elim
    | succ n4 ih_u5 =>
      intro x3_1 hw hWF
      unfold wp_X0_leafBehind_L4 at hw
      refine g_iload_n C dX0_leafBehind_4 rfl 2 rfl ?_
      refine g_iload_n C dX0_leafBehind_5 rfl 1 rfl ?_
      refine g_icmp_ge (tgt := 27) C dX0_leafBehind_6 (by decide) (fun c7 => ?_) (fun c7 => ?_)
      · have hw := hw.1 c7
        refine g_iconst (v := (-1 : Int32)) C dX0_leafBehind_27 (by decide) ?_
        exact g_iret C dX0_leafBehind_28 hr ⟨hw, rfl, rfl, rfl, hWF⟩
      · have hw := hw.2 c7
        refine g_aload_n C dX0_leafBehind_9 rfl 0 rfl ?_
        refine g_getQ C dX0_leafBehind_10 ft_47 z0 (hWF.q z0 1 rfl) ?_
        have zz8 := hWF.r z0 1 rfl
        refine g_iload_n C dX0_leafBehind_13 rfl 2 rfl ?_
        refine g_iald C dX0_leafBehind_14 zz8 hw.1 ?_
        have hw := hw.2
        refine g_iconst (v := (1 : Int32)) C dX0_leafBehind_15 (by decide) ?_
        refine g_icmp_ne (tgt := 21) C dX0_leafBehind_16 (by decide) (fun c9 => ?_) (fun c9 => ?_)
        · have hw := hw.1 c9
          refine g_iinc (v := (x3_1 + (1 : Int32))) (lv' := [(3, .int (x3_1 + (1 : Int32))), (0, .ref (ad h0)), (2, .int x2)]) C dX0_leafBehind_21 (q := 2) rfl rfl (by decide) rfl ?_
          refine g_goto C dX0_leafBehind_24 (tgt := 4) (by decide) ?_
          refine g_sub [1, 2, 0] rfl ?_
          exact ih_u5 (x3_1 + (1 : Int32)) hw hWF
        · have hw := hw.2 c9
          refine g_iload_n C dX0_leafBehind_19 rfl 2 rfl ?_
          exact g_iret C dX0_leafBehind_20 hr ⟨hw, rfl, rfl, rfl, hWF⟩
  obtain ⟨n_u5, hw⟩ := hw
  refine g_sub [1, 3, 0] rfl ?_
  exact L4_u5 n_u5 (x1 + (1 : Int32)) hw hWF
def wp_X0_connect (I : KI) (Q : KQ) (h0 : Nat) (x1 : Int32) (x2 : Int32) (post : KI → Prop) : Prop := ((x1 < 0 → post I) ∧ (¬ x1 < 0 → ((x2 < 0 → post I) ∧ (¬ x2 < 0 → (vp_in x1 6 ∧ (vp_in x1 6 ∧ (vp_in x2 6 ∧ (vp_in x2 6 ∧ (vp_in x1 6 ∧ (vp_in x1 6 ∧ (vp_in x2 6 ∧ (vp_in x2 6 ∧ post (sti (sti (sti (sti I (rq Q h0 2) x1.toNatClampNeg ((I (rq Q h0 2) x1.toNatClampNeg) ||| ((1 : Int32) <<< (x2 &&& 31)))) (rq Q h0 2) x2.toNatClampNeg (((sti I (rq Q h0 2) x1.toNatClampNeg ((I (rq Q h0 2) x1.toNatClampNeg) ||| ((1 : Int32) <<< (x2 &&& 31)))) (rq Q h0 2) x2.toNatClampNeg) ||| ((1 : Int32) <<< (x1 &&& 31)))) (rq Q h0 1) x1.toNatClampNeg (((sti (sti I (rq Q h0 2) x1.toNatClampNeg ((I (rq Q h0 2) x1.toNatClampNeg) ||| ((1 : Int32) <<< (x2 &&& 31)))) (rq Q h0 2) x2.toNatClampNeg (((sti I (rq Q h0 2) x1.toNatClampNeg ((I (rq Q h0 2) x1.toNatClampNeg) ||| ((1 : Int32) <<< (x2 &&& 31)))) (rq Q h0 2) x2.toNatClampNeg) ||| ((1 : Int32) <<< (x1 &&& 31)))) (rq Q h0 1) x1.toNatClampNeg) - (1 : Int32))) (rq Q h0 1) x2.toNatClampNeg (((sti (sti (sti I (rq Q h0 2) x1.toNatClampNeg ((I (rq Q h0 2) x1.toNatClampNeg) ||| ((1 : Int32) <<< (x2 &&& 31)))) (rq Q h0 2) x2.toNatClampNeg (((sti I (rq Q h0 2) x1.toNatClampNeg ((I (rq Q h0 2) x1.toNatClampNeg) ||| ((1 : Int32) <<< (x2 &&& 31)))) (rq Q h0 2) x2.toNatClampNeg) ||| ((1 : Int32) <<< (x1 &&& 31)))) (rq Q h0 1) x1.toNatClampNeg (((sti (sti I (rq Q h0 2) x1.toNatClampNeg ((I (rq Q h0 2) x1.toNatClampNeg) ||| ((1 : Int32) <<< (x2 &&& 31)))) (rq Q h0 2) x2.toNatClampNeg (((sti I (rq Q h0 2) x1.toNatClampNeg ((I (rq Q h0 2) x1.toNatClampNeg) ||| ((1 : Int32) <<< (x2 &&& 31)))) (rq Q h0 2) x2.toNatClampNeg) ||| ((1 : Int32) <<< (x1 &&& 31)))) (rq Q h0 1) x1.toNatClampNeg) - (1 : Int32))) (rq Q h0 1) x2.toNatClampNeg) - (1 : Int32)))))))))))))))
set_option maxHeartbeats 4000000 in
set_option maxRecDepth 100000 in
theorem met_X0_connect {Z : Nat → Prop} {A : Nat → Prop} {D : va_G} {D2 : Nat → ClassId} {ad : Nat → Nat} {N : Nat} {T : Nat → Nat × Nat} (l : Launch) {I : KI} {J : KJ} {Q : KQ} {h0 : Nat} {x1 : Int32} {x2 : Int32} {post : KI → Prop} (hWF : WF Z N T Q) (z0 : OKr Z N T h0 (0, 0)) (hw : wp_X0_connect I Q h0 x1 x2 post) : Met l yX0_connect (.code yX0_connect cX0_connect 3 none :: BIG) ({ frames := 0, cells := 0, slots := 0, locals := 0 }) (Pr D D2 A ad N T I J Q [.ref (ad h0), .int x1, .int x2]) (va_Qv (fun (u : KS) => post u.1 ∧ u.2.1 = J ∧ u.2.2 = Q ∧ WF Z N T u.2.2) (Bw D D2 ad N T) A) 0 0 A := by
  refine Met_GG (lv0 := [(0, .ref (ad h0)), (1, .int x1), (2, .int x2)]) (by decide +kernel) [.ref (ad h0), .int x1, .int x2] (Nat.le_of_ble_eq_true rfl) rfl ?_
  intro p e s m below meth c C hr
  have C : CX p s m [.ref (ad h0), .int x1, .int x2].toArray meth c cX0_connect 3 RX0 A D D2 := C
  unfold wp_X0_connect at hw
  refine g_iload_n C dX0_connect_0 rfl 1 rfl ?_
  refine g_if_lt (tgt := 52) C dX0_connect_1 (by decide) (fun c1 => ?_) (fun c1 => ?_)
  · have hw := hw.1 c1
    exact g_vret C dX0_connect_52 hr ⟨hw, rfl, rfl, hWF⟩
  · have hw := hw.2 c1
    refine g_iload_n C dX0_connect_4 rfl 2 rfl ?_
    refine g_if_lt (tgt := 52) C dX0_connect_5 (by decide) (fun c2 => ?_) (fun c2 => ?_)
    · have hw := hw.1 c2
      exact g_vret C dX0_connect_52 hr ⟨hw, rfl, rfl, hWF⟩
    · have hw := hw.2 c2
      refine g_aload_n C dX0_connect_8 rfl 0 rfl ?_
      refine g_getQ C dX0_connect_9 ft_49 z0 (hWF.q z0 2 rfl) ?_
      have zz3 := hWF.r z0 2 rfl
      refine g_iload_n C dX0_connect_12 rfl 1 rfl ?_
      refine g_dup2 C dX0_connect_13 rfl rfl ?_
      refine g_iald C dX0_connect_14 zz3 hw.1 ?_
      have hw := hw.2
      refine g_iconst (v := (1 : Int32)) C dX0_connect_15 (by decide) ?_
      refine g_iload_n C dX0_connect_16 rfl 2 rfl ?_
      refine g_ishl C dX0_connect_17 ?_
      refine g_ior C dX0_connect_18 ?_
      refine g_iast C dX0_connect_19 zz3 hw.1 ?_
      have hw := hw.2
      refine g_aload_n C dX0_connect_20 rfl 0 rfl ?_
      refine g_getQ C dX0_connect_21 ft_49 z0 (hWF.q z0 2 rfl) ?_
      have zz4 := hWF.r z0 2 rfl
      refine g_iload_n C dX0_connect_24 rfl 2 rfl ?_
      refine g_dup2 C dX0_connect_25 rfl rfl ?_
      refine g_iald C dX0_connect_26 zz4 hw.1 ?_
      have hw := hw.2
      refine g_iconst (v := (1 : Int32)) C dX0_connect_27 (by decide) ?_
      refine g_iload_n C dX0_connect_28 rfl 1 rfl ?_
      refine g_ishl C dX0_connect_29 ?_
      refine g_ior C dX0_connect_30 ?_
      refine g_iast C dX0_connect_31 zz4 hw.1 ?_
      have hw := hw.2
      refine g_aload_n C dX0_connect_32 rfl 0 rfl ?_
      refine g_getQ C dX0_connect_33 ft_47 z0 (hWF.q z0 1 rfl) ?_
      have zz5 := hWF.r z0 1 rfl
      refine g_iload_n C dX0_connect_36 rfl 1 rfl ?_
      refine g_dup2 C dX0_connect_37 rfl rfl ?_
      refine g_iald C dX0_connect_38 zz5 hw.1 ?_
      have hw := hw.2
      refine g_iconst (v := (1 : Int32)) C dX0_connect_39 (by decide) ?_
      refine g_isub C dX0_connect_40 ?_
      refine g_iast C dX0_connect_41 zz5 hw.1 ?_
      have hw := hw.2
      refine g_aload_n C dX0_connect_42 rfl 0 rfl ?_
      refine g_getQ C dX0_connect_43 ft_47 z0 (hWF.q z0 1 rfl) ?_
      have zz6 := hWF.r z0 1 rfl
      refine g_iload_n C dX0_connect_46 rfl 2 rfl ?_
      refine g_dup2 C dX0_connect_47 rfl rfl ?_
      refine g_iald C dX0_connect_48 zz6 hw.1 ?_
      have hw := hw.2
      refine g_iconst (v := (1 : Int32)) C dX0_connect_49 (by decide) ?_
      refine g_isub C dX0_connect_50 ?_
      refine g_iast C dX0_connect_51 zz6 hw.1 ?_
      have hw := hw.2
      exact g_vret C dX0_connect_52 hr ⟨hw, rfl, rfl, hWF⟩
def wp_X0_grow_L11 (Qf_2 : KQ) (f0_2 : Nat) (f2_2 : Int32) (k59 : KI → Prop) : Nat → KI → Int32 → Int32 → Prop
  | 0, _, _, _ => False
  | n11 + 1, I_2, x3_2, x4_2 => ((f2_2 ≤ x4_2 → k59 I_2) ∧ (¬ f2_2 ≤ x4_2 → wp_X0_leafBehind I_2 Qf_2 f0_2 (-1 : Int32) f2_2 (fun r4 => wp_X10_leftOver x3_2 f2_2 (fun r5 => (((1 : Int32) ≤ f2_2 → (¬ f2_2 = 0 ∧ wp_X0_connect I_2 Qf_2 f0_2 r4 r5 (fun I7 => wp_X0_grow_L11 Qf_2 f0_2 f2_2 k59 n11 I7 (x3_2 / f2_2) (x4_2 + (1 : Int32))))) ∧ (¬ (1 : Int32) ≤ f2_2 → wp_X0_connect I_2 Qf_2 f0_2 r4 r5 (fun I8 => wp_X0_grow_L11 Qf_2 f0_2 f2_2 k59 n11 I8 (x3_2 / (1 : Int32)) (x4_2 + (1 : Int32)))))))))
def wp_X0_grow (I : KI) (Q : KQ) (h0 : Nat) (x1 : Int32) (x2 : Int32) (post : KI → Prop) : Prop := wp_X0_countDegrees I Q h0 x1 x2 (fun I1 => (∃ q11, wp_X0_grow_L11 Q h0 x2 (fun I_10 => wp_X0_leafBehind I_10 Q h0 (-1 : Int32) x2 (fun r11 => wp_X0_leafBehind I_10 Q h0 r11 x2 (fun r12 => wp_X0_connect I_10 Q h0 r11 r12 (fun I13 => post I13)))) q11 I1 x1 (2 : Int32)))
set_option maxHeartbeats 4000000 in
set_option maxRecDepth 100000 in
theorem met_X0_grow {Z : Nat → Prop} {A : Nat → Prop} {D : va_G} {D2 : Nat → ClassId} {ad : Nat → Nat} {N : Nat} {T : Nat → Nat × Nat} (l : Launch) {I : KI} {J : KJ} {Q : KQ} {h0 : Nat} {x1 : Int32} {x2 : Int32} {post : KI → Prop} (hWF : WF Z N T Q) (z0 : OKr Z N T h0 (0, 0)) (hw : wp_X0_grow I Q h0 x1 x2 post) : Met l yX0_grow (.code yX0_grow cX0_grow 7 none :: BIG) ({ frames := 3, cells := 0, slots := 0, locals := 67 }) (Pr D D2 A ad N T I J Q [.ref (ad h0), .int x1, .int x2]) (va_Qv (fun (u : KS) => post u.1 ∧ u.2.1 = J ∧ u.2.2 = Q ∧ WF Z N T u.2.2) (Bw D D2 ad N T) A) 0 0 A := by
  refine Met_GG (lv0 := [(0, .ref (ad h0)), (1, .int x1), (2, .int x2)]) (by decide +kernel) [.ref (ad h0), .int x1, .int x2] (Nat.le_of_ble_eq_true rfl) rfl ?_
  intro p e s m below meth c C hr
  have C : CX p s m [.ref (ad h0), .int x1, .int x2].toArray meth c cX0_grow 7 RX0 A D D2 := C
  unfold wp_X0_grow at hw
  refine g_aload_n C dX0_grow_0 rfl 0 rfl ?_
  refine g_iload_n C dX0_grow_1 rfl 1 rfl ?_
  refine g_iload_n C dX0_grow_2 rfl 2 rfl ?_
  refine g_callVv (As := [.int x1, .int x2]) C dX0_grow_3 ft_53 z0 ft_56 ft_57 (met_X0_countDegrees l hWF z0 hw) ⟨rfl, rfl, Nat.le_of_ble_eq_true rfl, Nat.le_of_ble_eq_true rfl⟩ ⟨Nat.zero_le _, Nat.zero_le _⟩ rfl rfl (Nat.le_of_ble_eq_true rfl) (fun I1 J1 Q1 hp => ?_)
  obtain ⟨hw, eJ, eQ, hWF⟩ := hp
  have eJ : J = J1 := Eq.symm eJ
  subst eJ
  have eQ : Q = Q1 := Eq.symm eQ
  subst eQ
  try dsimp only at hw hWF
  refine g_iload_n C dX0_grow_6 rfl 1 rfl ?_
  refine g_istore_n (lv' := [(3, .int x1), (0, .ref (ad h0)), (1, .int x1), (2, .int x2)]) C dX0_grow_7 rfl (by decide) rfl ?_
  refine g_iconst (v := (2 : Int32)) C dX0_grow_8 (by decide) ?_
  refine g_istore (lv' := [(4, .int (2 : Int32)), (3, .int x1), (0, .ref (ad h0)), (1, .int x1), (2, .int x2)]) C dX0_grow_9 (by decide) rfl ?_
  have K59_u9 : ∀ (I_10 : KI), (wp_X0_leafBehind I_10 Q h0 (-1 : Int32) x2 (fun r11 => wp_X0_leafBehind I_10 Q h0 r11 x2 (fun r12 => wp_X0_connect I_10 Q h0 r11 r12 (fun I13 => post I13)))) → WF Z N T Q → GG p l e ({ frames := 3, cells := 0, slots := 0, locals := 67 }) s m [.ref (ad h0), .int x1, .int x2].toArray below meth c 7 A D D2 0 0 (MQ below (va_Qv (fun (u : KS) => post u.1 ∧ u.2.1 = J ∧ u.2.2 = Q ∧ WF Z N T u.2.2) (Bw D D2 ad N T) A) [.ref (ad h0), .int x1, .int x2].toArray s 0 0 A) ad N T I_10 J Q 59 [(0, .ref (ad h0)), (2, .int x2)] [] := by
    intro I_10 hw hWF
    refine g_aload_n C dX0_grow_59 rfl 0 rfl ?_
    refine g_iconst (v := (-1 : Int32)) C dX0_grow_60 (by decide) ?_
    refine g_iload_n C dX0_grow_61 rfl 1 rfl ?_
    refine g_callVi (As := [.int (-1 : Int32), .int x2]) C dX0_grow_62 ft_53 z0 ft_54 ft_55 (met_X0_leafBehind l hWF z0 hw) ⟨rfl, rfl, Nat.le_of_ble_eq_true rfl, Nat.le_of_ble_eq_true rfl⟩ ⟨Nat.zero_le _, Nat.zero_le _⟩ rfl rfl (Nat.le_of_ble_eq_true rfl) (fun r11 I11 J11 Q11 hp => ?_)
    obtain ⟨hw, eI, eJ, eQ, hWF⟩ := hp
    have eI : I_10 = I11 := Eq.symm eI
    subst eI
    have eJ : J = J11 := Eq.symm eJ
    subst eJ
    have eQ : Q = Q11 := Eq.symm eQ
    subst eQ
    try dsimp only at hw hWF
    refine g_istore (lv' := [(4, .int r11), (0, .ref (ad h0)), (2, .int x2)]) C dX0_grow_65 (by decide) rfl ?_
    refine g_aload_n C dX0_grow_67 rfl 1 rfl ?_
    refine g_iload C dX0_grow_68 0 rfl ?_
    refine g_aload_n C dX0_grow_70 rfl 1 rfl ?_
    refine g_iload C dX0_grow_71 0 rfl ?_
    refine g_iload_n C dX0_grow_73 rfl 2 rfl ?_
    refine g_callVi (As := [.int r11, .int x2]) C dX0_grow_74 ft_53 z0 ft_54 ft_55 (met_X0_leafBehind l hWF z0 hw) ⟨rfl, rfl, Nat.le_of_ble_eq_true rfl, Nat.le_of_ble_eq_true rfl⟩ ⟨Nat.zero_le _, Nat.zero_le _⟩ rfl rfl (Nat.le_of_ble_eq_true rfl) (fun r12 I12 J12 Q12 hp => ?_)
    obtain ⟨hw, eI, eJ, eQ, hWF⟩ := hp
    have eI : I_10 = I12 := Eq.symm eI
    subst eI
    have eJ : J = J12 := Eq.symm eJ
    subst eJ
    have eQ : Q = Q12 := Eq.symm eQ
    subst eQ
    try dsimp only at hw hWF
    refine g_callVv (As := [.int r11, .int r12]) C dX0_grow_77 ft_53 z0 ft_51 ft_52 (met_X0_connect l hWF z0 hw) ⟨rfl, rfl, Nat.le_of_ble_eq_true rfl, Nat.le_of_ble_eq_true rfl⟩ ⟨Nat.zero_le _, Nat.zero_le _⟩ rfl rfl (Nat.le_of_ble_eq_true rfl) (fun I13 J13 Q13 hp => ?_)
    obtain ⟨hw, eJ, eQ, hWF⟩ := hp
    have eJ : J = J13 := Eq.symm eJ
    subst eJ
    have eQ : Q = Q13 := Eq.symm eQ
    subst eQ
    try dsimp only at hw hWF
    exact g_vret C dX0_grow_80 hr ⟨hw, rfl, rfl, hWF⟩
  have L11_u9 : ∀ (n11 : Nat) (I_2 : KI) (x3_2 : Int32) (x4_2 : Int32), wp_X0_grow_L11 Q h0 x2 (fun I_10 => wp_X0_leafBehind I_10 Q h0 (-1 : Int32) x2 (fun r11 => wp_X0_leafBehind I_10 Q h0 r11 x2 (fun r12 => wp_X0_connect I_10 Q h0 r11 r12 (fun I13 => post I13)))) n11 I_2 x3_2 x4_2 → WF Z N T Q → GG p l e ({ frames := 3, cells := 0, slots := 0, locals := 67 }) s m [.ref (ad h0), .int x1, .int x2].toArray below meth c 7 A D D2 0 0 (MQ below (va_Qv (fun (u : KS) => post u.1 ∧ u.2.1 = J ∧ u.2.2 = Q ∧ WF Z N T u.2.2) (Bw D D2 ad N T) A) [.ref (ad h0), .int x1, .int x2].toArray s 0 0 A) ad N T I_2 J Q 11 [(0, .ref (ad h0)), (2, .int x2), (3, .int x3_2), (4, .int x4_2)] [] := by
    intro n11
    induction n11 with
    | zero => intro I_2 x3_2 x4_2 hw; exact hw.elim
    | succ n11 ih_u9 =>
      intro I_2 x3_2 x4_2 hw hWF
      unfold wp_X0_grow_L11 at hw
      refine g_iload C dX0_grow_11 3 rfl ?_
      refine g_iload_n C dX0_grow_13 rfl 1 rfl ?_
      refine g_icmp_ge (tgt := 59) C dX0_grow_14 (by decide) (fun c15 => ?_) (fun c15 => ?_)
      · have hw := hw.1 c15
        refine g_sub [0, 1] rfl ?_
        exact K59_u9 I_2 hw hWF
      · have hw := hw.2 c15
        refine g_aload_n C dX0_grow_17 rfl 0 rfl ?_
        refine g_iconst (v := (-1 : Int32)) C dX0_grow_18 (by decide) ?_
        refine g_iload_n C dX0_grow_19 rfl 1 rfl ?_
        refine g_callVi (As := [.int (-1 : Int32), .int x2]) C dX0_grow_20 ft_53 z0 ft_54 ft_55 (met_X0_leafBehind l hWF z0 hw) ⟨rfl, rfl, Nat.le_of_ble_eq_true rfl, Nat.le_of_ble_eq_true rfl⟩ ⟨Nat.zero_le _, Nat.zero_le _⟩ rfl rfl (Nat.le_of_ble_eq_true rfl) (fun r16 I16 J16 Q16 hp => ?_)
        obtain ⟨hw, eI, eJ, eQ, hWF⟩ := hp
        have eI : I_2 = I16 := Eq.symm eI
        subst eI
        have eJ : J = J16 := Eq.symm eJ
        subst eJ
        have eQ : Q = Q16 := Eq.symm eQ
        subst eQ
        try dsimp only at hw hWF
        refine g_istore (lv' := [(5, .int r16), (0, .ref (ad h0)), (2, .int x2), (3, .int x3_2), (4, .int x4_2)]) C dX0_grow_23 (by decide) rfl ?_
        refine g_iload_n C dX0_grow_25 rfl 3 rfl ?_
        refine g_iload_n C dX0_grow_26 rfl 2 rfl ?_
        refine g_callSNi (As := [.int x3_2, .int x2]) C dX0_grow_27 ft_50 ft_12 (met_X10_leftOver l hWF  hw) ⟨rfl, rfl, Nat.le_of_ble_eq_true rfl, Nat.le_of_ble_eq_true rfl⟩ ⟨Nat.zero_le _, Nat.zero_le _⟩ rfl rfl (Nat.le_of_ble_eq_true rfl) (fun r17 I17 J17 Q17 hp => ?_)
        obtain ⟨hw, eI, eJ, eQ, hWF⟩ := hp
        have eI : I_2 = I17 := Eq.symm eI
        subst eI
        have eJ : J = J17 := Eq.symm eJ
        subst eJ
        have eQ : Q = Q17 := Eq.symm eQ
        subst eQ
        try dsimp only at hw hWF
        refine g_istore (lv' := [(6, .int r17), (5, .int r16), (0, .ref (ad h0)), (2, .int x2), (3, .int x3_2), (4, .int x4_2)]) C dX0_grow_30 (by decide) rfl ?_
        refine g_iload_n C dX0_grow_32 rfl 4 rfl ?_
        refine g_iload_n C dX0_grow_33 rfl 3 rfl ?_
        refine g_iconst (v := (1 : Int32)) C dX0_grow_34 (by decide) ?_
        refine g_icmp_ge (tgt := 42) C dX0_grow_35 (by decide) (fun c18 => ?_) (fun c18 => ?_)
        · have hw := hw.1 c18
          refine g_iload_n C dX0_grow_42 rfl 3 rfl ?_
          refine g_idiv C dX0_grow_43 hw.1 ?_
          have hw := hw.2
          refine g_istore_n (lv' := [(3, .int (x3_2 / x2)), (6, .int r17), (5, .int r16), (0, .ref (ad h0)), (2, .int x2), (4, .int x4_2)]) C dX0_grow_44 rfl (by decide) rfl ?_
          refine g_aload_n C dX0_grow_45 rfl 3 rfl ?_
          refine g_iload C dX0_grow_46 2 rfl ?_
          refine g_iload C dX0_grow_48 1 rfl ?_
          refine g_callVv (As := [.int r16, .int r17]) C dX0_grow_50 ft_53 z0 ft_51 ft_52 (met_X0_connect l hWF z0 hw) ⟨rfl, rfl, Nat.le_of_ble_eq_true rfl, Nat.le_of_ble_eq_true rfl⟩ ⟨Nat.zero_le _, Nat.zero_le _⟩ rfl rfl (Nat.le_of_ble_eq_true rfl) (fun I19 J19 Q19 hp => ?_)
          obtain ⟨hw, eJ, eQ, hWF⟩ := hp
          have eJ : J = J19 := Eq.symm eJ
          subst eJ
          have eQ : Q = Q19 := Eq.symm eQ
          subst eQ
          try dsimp only at hw hWF
          refine g_iinc (v := (x4_2 + (1 : Int32))) (lv' := [(4, .int (x4_2 + (1 : Int32))), (3, .int (x3_2 / x2)), (6, .int r17), (5, .int r16), (0, .ref (ad h0)), (2, .int x2)]) C dX0_grow_53 (q := 5) rfl rfl (by decide) rfl ?_
          refine g_goto C dX0_grow_56 (tgt := 11) (by decide) ?_
          refine g_sub [4, 5, 1, 0] rfl ?_
          exact ih_u9 I19 (x3_2 / x2) (x4_2 + (1 : Int32)) hw hWF
        · have hw := hw.2 c18
          refine g_iconst (v := (1 : Int32)) C dX0_grow_38 (by decide) ?_
          refine g_goto C dX0_grow_39 (tgt := 43) (by decide) ?_
          refine g_idiv C dX0_grow_43 (by decide) ?_
          refine g_istore_n (lv' := [(3, .int (x3_2 / (1 : Int32))), (6, .int r17), (5, .int r16), (0, .ref (ad h0)), (2, .int x2), (4, .int x4_2)]) C dX0_grow_44 rfl (by decide) rfl ?_
          refine g_aload_n C dX0_grow_45 rfl 3 rfl ?_
          refine g_iload C dX0_grow_46 2 rfl ?_
          refine g_iload C dX0_grow_48 1 rfl ?_
          refine g_callVv (As := [.int r16, .int r17]) C dX0_grow_50 ft_53 z0 ft_51 ft_52 (met_X0_connect l hWF z0 hw) ⟨rfl, rfl, Nat.le_of_ble_eq_true rfl, Nat.le_of_ble_eq_true rfl⟩ ⟨Nat.zero_le _, Nat.zero_le _⟩ rfl rfl (Nat.le_of_ble_eq_true rfl) (fun I20 J20 Q20 hp => ?_)
          obtain ⟨hw, eJ, eQ, hWF⟩ := hp
          have eJ : J = J20 := Eq.symm eJ
          subst eJ
          have eQ : Q = Q20 := Eq.symm eQ
          subst eQ
          try dsimp only at hw hWF
          refine g_iinc (v := (x4_2 + (1 : Int32))) (lv' := [(4, .int (x4_2 + (1 : Int32))), (3, .int (x3_2 / (1 : Int32))), (6, .int r17), (5, .int r16), (0, .ref (ad h0)), (2, .int x2)]) C dX0_grow_53 (q := 5) rfl rfl (by decide) rfl ?_
          refine g_goto C dX0_grow_56 (tgt := 11) (by decide) ?_
          refine g_sub [4, 5, 1, 0] rfl ?_
          exact ih_u9 I20 (x3_2 / (1 : Int32)) (x4_2 + (1 : Int32)) hw hWF
  obtain ⟨n_u9, hw⟩ := hw
  refine g_sub [2, 4, 1, 0] rfl ?_
  exact L11_u9 n_u9 I1 x1 (2 : Int32) hw hWF
def wp_X0_byTree_L4 (If_1 : KI) (Qf_1 : KQ) (f0_1 : Nat) (f1_1 : Int32) (post : Int32 → Prop) : Nat → Int32 → Int32 → Prop
  | 0, _, _ => False
  | n4 + 1, x2_1, x3_1 => ((f1_1 ≤ x3_1 → post x2_1) ∧ (¬ f1_1 ≤ x3_1 → (vp_in x3_1 6 ∧ (vp_in ((x3_1 * (64 : Int32)) + (If_1 (rq Qf_1 f0_1 2) x3_1.toNatClampNeg)) 384 ∧ wp_X0_byTree_L4 If_1 Qf_1 f0_1 f1_1 post n4 (x2_1 + (If_1 (rq Qf_1 f0_1 0) ((x3_1 * (64 : Int32)) + (If_1 (rq Qf_1 f0_1 2) x3_1.toNatClampNeg)).toNatClampNeg)) (x3_1 + (1 : Int32))))))
def wp_X0_byTree (I : KI) (Q : KQ) (h0 : Nat) (x1 : Int32) (post : Int32 → Prop) : Prop := (∃ q4, wp_X0_byTree_L4 I Q h0 x1 post q4 (0 : Int32) (0 : Int32))
set_option maxHeartbeats 4000000 in
set_option maxRecDepth 100000 in
theorem met_X0_byTree {Z : Nat → Prop} {A : Nat → Prop} {D : va_G} {D2 : Nat → ClassId} {ad : Nat → Nat} {N : Nat} {T : Nat → Nat × Nat} (l : Launch) {I : KI} {J : KJ} {Q : KQ} {h0 : Nat} {x1 : Int32} {post : Int32 → Prop} (hWF : WF Z N T Q) (z0 : OKr Z N T h0 (0, 0)) (hw : wp_X0_byTree I Q h0 x1 post) : Met l yX0_byTree (.code yX0_byTree cX0_byTree 4 (some .int) :: BIG) ({ frames := 0, cells := 0, slots := 0, locals := 0 }) (Pr D D2 A ad N T I J Q [.ref (ad h0), .int x1]) (va_Qi (fun (r : Int32) (u : KS) => post r ∧ u.1 = I ∧ u.2.1 = J ∧ u.2.2 = Q ∧ WF Z N T u.2.2) (Bw D D2 ad N T) A) 0 0 A := by
  refine Met_GG (lv0 := [(0, .ref (ad h0)), (1, .int x1)]) (by decide +kernel) [.ref (ad h0), .int x1] (Nat.le_of_ble_eq_true rfl) rfl ?_
  intro p e s m below meth c C hr
  have C : CX p s m [.ref (ad h0), .int x1].toArray meth c cX0_byTree 4 RX0 A D D2 := C
  unfold wp_X0_byTree at hw
  refine g_iconst (v := (0 : Int32)) C dX0_byTree_0 (by decide) ?_
  refine g_istore_n (lv' := [(2, .int (0 : Int32)), (0, .ref (ad h0)), (1, .int x1)]) C dX0_byTree_1 rfl (by decide) rfl ?_
  refine g_iconst (v := (0 : Int32)) C dX0_byTree_2 (by decide) ?_
  refine g_istore_n (lv' := [(3, .int (0 : Int32)), (2, .int (0 : Int32)), (0, .ref (ad h0)), (1, .int x1)]) C dX0_byTree_3 rfl (by decide) rfl ?_
  have L4_u5 : ∀ (n4 : Nat) (x2_1 : Int32) (x3_1 : Int32), wp_X0_byTree_L4 I Q h0 x1 post n4 x2_1 x3_1 → WF Z N T Q → GG p l e ({ frames := 0, cells := 0, slots := 0, locals := 0 }) s m [.ref (ad h0), .int x1].toArray below meth c 4 A D D2 0 0 (MQ below (va_Qi (fun (r : Int32) (u : KS) => post r ∧ u.1 = I ∧ u.2.1 = J ∧ u.2.2 = Q ∧ WF Z N T u.2.2) (Bw D D2 ad N T) A) [.ref (ad h0), .int x1].toArray s 0 0 A) ad N T I J Q 4 [(0, .ref (ad h0)), (1, .int x1), (2, .int x2_1), (3, .int x3_1)] [] := by
    intro n4
    induction n4 with
    | zero => intro x2_1 x3_1 hw; exact hw.elim
    | succ n4 ih_u5 =>
      intro x2_1 x3_1 hw hWF
      unfold wp_X0_byTree_L4 at hw
      refine g_iload_n C dX0_byTree_4 rfl 3 rfl ?_
      refine g_iload_n C dX0_byTree_5 rfl 1 rfl ?_
      refine g_icmp_ge (tgt := 34) C dX0_byTree_6 (by decide) (fun c7 => ?_) (fun c7 => ?_)
      · have hw := hw.1 c7
        refine g_iload_n C dX0_byTree_34 rfl 2 rfl ?_
        exact g_iret C dX0_byTree_35 hr ⟨hw, rfl, rfl, rfl, hWF⟩
      · have hw := hw.2 c7
        refine g_iload_n C dX0_byTree_9 rfl 2 rfl ?_
        refine g_aload_n C dX0_byTree_10 rfl 0 rfl ?_
        refine g_getQ C dX0_byTree_11 ft_58 z0 (hWF.q z0 0 rfl) ?_
        have zz8 := hWF.r z0 0 rfl
        refine g_iload_n C dX0_byTree_14 rfl 3 rfl ?_
        refine g_bipush (v := (64 : Int32)) C dX0_byTree_15 (by decide) ?_
        refine g_imul C dX0_byTree_17 ?_
        refine g_aload_n C dX0_byTree_18 rfl 0 rfl ?_
        refine g_getQ C dX0_byTree_19 ft_49 z0 (hWF.q z0 2 rfl) ?_
        have zz9 := hWF.r z0 2 rfl
        refine g_iload_n C dX0_byTree_22 rfl 3 rfl ?_
        refine g_iald C dX0_byTree_23 zz9 hw.1 ?_
        have hw := hw.2
        refine g_iadd C dX0_byTree_24 ?_
        refine g_iald C dX0_byTree_25 zz8 hw.1 ?_
        have hw := hw.2
        refine g_iadd C dX0_byTree_26 ?_
        refine g_istore_n (lv' := [(2, .int (x2_1 + (I (rq Q h0 0) ((x3_1 * (64 : Int32)) + (I (rq Q h0 2) x3_1.toNatClampNeg)).toNatClampNeg))), (0, .ref (ad h0)), (1, .int x1), (3, .int x3_1)]) C dX0_byTree_27 rfl (by decide) rfl ?_
        refine g_iinc (v := (x3_1 + (1 : Int32))) (lv' := [(3, .int (x3_1 + (1 : Int32))), (2, .int (x2_1 + (I (rq Q h0 0) ((x3_1 * (64 : Int32)) + (I (rq Q h0 2) x3_1.toNatClampNeg)).toNatClampNeg))), (0, .ref (ad h0)), (1, .int x1)]) C dX0_byTree_28 (q := 3) rfl rfl (by decide) rfl ?_
        refine g_goto C dX0_byTree_31 (tgt := 4) (by decide) ?_
        refine g_sub [2, 3, 1, 0] rfl ?_
        exact ih_u5 (x2_1 + (I (rq Q h0 0) ((x3_1 * (64 : Int32)) + (I (rq Q h0 2) x3_1.toNatClampNeg)).toNatClampNeg)) (x3_1 + (1 : Int32)) hw hWF
  obtain ⟨n_u5, hw⟩ := hw
  refine g_sub [2, 3, 1, 0] rfl ?_
  exact L4_u5 n_u5 (0 : Int32) (0 : Int32) hw hWF
