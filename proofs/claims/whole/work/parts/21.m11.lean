def wp_X11_isStop (I : KI) (Q : KQ) (h0 : Nat) (post : Int32 → KI → Prop) : Prop := wp_X11_here I Q h0 (fun r1 I1 => ((r1 < 0 → post (1 : Int32) I1) ∧ (¬ r1 < 0 → ((¬ r1 = (59 : Int32) → post (0 : Int32) I1) ∧ (r1 = (59 : Int32) → post (1 : Int32) I1)))))
set_option maxHeartbeats 4000000 in
set_option maxRecDepth 100000 in
theorem met_X11_isStop {Z : Nat → Prop} {A : Nat → Prop} {D : va_G} {D2 : Nat → ClassId} {ad : Nat → Nat} {N : Nat} {T : Nat → Nat × Nat} (l : Launch) {I : KI} {J : KJ} {Q : KQ} {h0 : Nat} {post : Int32 → KI → Prop} (hWF : WF Z N T Q) (z0 : OKr Z N T h0 (11, 0)) (hw : wp_X11_isStop I Q h0 post) : Met l yX11_isStop (.code yX11_isStop cX11_isStop 2 (some .boolean) :: BIG) ({ frames := 1, cells := 0, slots := 0, locals := 20 }) (Pr D D2 A ad N T I J Q [.ref (ad h0)]) (va_Qi (fun (r : Int32) (u : KS) => post r u.1 ∧ u.2.1 = J ∧ u.2.2 = Q ∧ WF Z N T u.2.2) (Bw D D2 ad N T) A) 0 0 A := by
  refine Met_GG (lv0 := [(0, .ref (ad h0))]) (by decide +kernel) [.ref (ad h0)] (Nat.le_of_ble_eq_true rfl) rfl ?_
  intro p e s m below meth c C hr
  have C : CX p s m [.ref (ad h0)].toArray meth c cX11_isStop 2 RX11 A D D2 := C
  unfold wp_X11_isStop at hw
  refine g_aload_n C dX11_isStop_0 rfl 0 rfl ?_
  refine g_callVi (As := []) C dX11_isStop_1 ft_387 z0 ft_481 ft_482 (met_X11_here l hWF z0 hw) ⟨rfl, rfl, Nat.le_of_ble_eq_true rfl, Nat.le_of_ble_eq_true rfl⟩ ⟨Nat.zero_le _, Nat.zero_le _⟩ rfl rfl (Nat.le_of_ble_eq_true rfl) (fun r1 I1 J1 Q1 hp => ?_)
  obtain ⟨hw, eJ, eQ, hWF⟩ := hp
  have eJ : J = J1 := Eq.symm eJ
  subst eJ
  have eQ : Q = Q1 := Eq.symm eQ
  subst eQ
  try dsimp only at hw hWF
  refine g_istore_n (lv' := [(1, .int r1), (0, .ref (ad h0))]) C dX11_isStop_4 rfl (by decide) rfl ?_
  refine g_iload_n C dX11_isStop_5 rfl 0 rfl ?_
  refine g_if_lt (tgt := 15) C dX11_isStop_6 (by decide) (fun c2 => ?_) (fun c2 => ?_)
  · have hw := hw.1 c2
    refine g_iconst (v := (1 : Int32)) C dX11_isStop_15 (by decide) ?_
    refine g_goto C dX11_isStop_16 (tgt := 20) (by decide) ?_
    exact g_zret C dX11_isStop_20 hr rfl ⟨hw, rfl, rfl, hWF⟩
  · have hw := hw.2 c2
    refine g_iload_n C dX11_isStop_9 rfl 0 rfl ?_
    refine g_bipush (v := (59 : Int32)) C dX11_isStop_10 (by decide) ?_
    refine g_icmp_ne (tgt := 19) C dX11_isStop_12 (by decide) (fun c3 => ?_) (fun c3 => ?_)
    · have hw := hw.1 c3
      refine g_iconst (v := (0 : Int32)) C dX11_isStop_19 (by decide) ?_
      exact g_zret C dX11_isStop_20 hr rfl ⟨hw, rfl, rfl, hWF⟩
    · have hw := hw.2 c3
      refine g_iconst (v := (1 : Int32)) C dX11_isStop_15 (by decide) ?_
      refine g_goto C dX11_isStop_16 (tgt := 20) (by decide) ?_
      exact g_zret C dX11_isStop_20 hr rfl ⟨hw, rfl, rfl, hWF⟩
def wp_X11_nodeHere (I : KI) (Q : KQ) (h0 : Nat) (post : Int32 → KI → Prop) : Prop := wp_X11_here I Q h0 (fun r1 I1 => ((r1 < (48 : Int32) → post (-4 : Int32) I1) ∧ (¬ r1 < (48 : Int32) → ((((48 : Int32) + (I1 (rq Q h0 0) (0 : Int32).toNatClampNeg)) ≤ r1 → post (-4 : Int32) I1) ∧ (¬ ((48 : Int32) + (I1 (rq Q h0 0) (0 : Int32).toNatClampNeg)) ≤ r1 → post (r1 - (48 : Int32)) I1)))))
set_option maxHeartbeats 4000000 in
set_option maxRecDepth 100000 in
theorem met_X11_nodeHere {Z : Nat → Prop} {A : Nat → Prop} {D : va_G} {D2 : Nat → ClassId} {ad : Nat → Nat} {N : Nat} {T : Nat → Nat × Nat} (l : Launch) {I : KI} {J : KJ} {Q : KQ} {h0 : Nat} {post : Int32 → KI → Prop} (hWF : WF Z N T Q) (z0 : OKr Z N T h0 (11, 0)) (hw : wp_X11_nodeHere I Q h0 post) : Met l yX11_nodeHere (.code yX11_nodeHere cX11_nodeHere 2 (some .int) :: BIG) ({ frames := 1, cells := 0, slots := 0, locals := 20 }) (Pr D D2 A ad N T I J Q [.ref (ad h0)]) (va_Qi (fun (r : Int32) (u : KS) => post r u.1 ∧ u.2.1 = J ∧ u.2.2 = Q ∧ WF Z N T u.2.2) (Bw D D2 ad N T) A) 0 0 A := by
  refine Met_GG (lv0 := [(0, .ref (ad h0))]) (by decide +kernel) [.ref (ad h0)] (Nat.le_of_ble_eq_true rfl) rfl ?_
  intro p e s m below meth c C hr
  have C : CX p s m [.ref (ad h0)].toArray meth c cX11_nodeHere 2 RX11 A D D2 := C
  unfold wp_X11_nodeHere at hw
  refine g_aload_n C dX11_nodeHere_0 rfl 0 rfl ?_
  refine g_callVi (As := []) C dX11_nodeHere_1 ft_387 z0 ft_481 ft_482 (met_X11_here l hWF z0 hw) ⟨rfl, rfl, Nat.le_of_ble_eq_true rfl, Nat.le_of_ble_eq_true rfl⟩ ⟨Nat.zero_le _, Nat.zero_le _⟩ rfl rfl (Nat.le_of_ble_eq_true rfl) (fun r1 I1 J1 Q1 hp => ?_)
  obtain ⟨hw, eJ, eQ, hWF⟩ := hp
  have eJ : J = J1 := Eq.symm eJ
  subst eJ
  have eQ : Q = Q1 := Eq.symm eQ
  subst eQ
  try dsimp only at hw hWF
  refine g_istore_n (lv' := [(1, .int r1), (0, .ref (ad h0))]) C dX11_nodeHere_4 rfl (by decide) rfl ?_
  refine g_iload_n C dX11_nodeHere_5 rfl 0 rfl ?_
  refine g_bipush (v := (48 : Int32)) C dX11_nodeHere_6 (by decide) ?_
  refine g_icmp_lt (tgt := 31) C dX11_nodeHere_8 (by decide) (fun c2 => ?_) (fun c2 => ?_)
  · have hw := hw.1 c2
    refine g_bipush (v := (-4 : Int32)) C dX11_nodeHere_31 (by decide) ?_
    exact g_iret C dX11_nodeHere_33 hr ⟨hw, rfl, rfl, hWF⟩
  · have hw := hw.2 c2
    refine g_iload_n C dX11_nodeHere_11 rfl 0 rfl ?_
    refine g_bipush (v := (48 : Int32)) C dX11_nodeHere_12 (by decide) ?_
    refine g_aload_n C dX11_nodeHere_14 rfl 1 rfl ?_
    refine g_getQ C dX11_nodeHere_15 ft_363 z0 (hWF.q z0 0 rfl) ?_
    have zz3 := hWF.r z0 0 rfl
    refine g_iconst (v := (0 : Int32)) C dX11_nodeHere_18 (by decide) ?_
    refine g_iald C dX11_nodeHere_19 zz3 (vp_lit (by decide +kernel)) ?_
    refine g_iadd C dX11_nodeHere_20 ?_
    refine g_icmp_ge (tgt := 31) C dX11_nodeHere_21 (by decide) (fun c4 => ?_) (fun c4 => ?_)
    · have hw := hw.1 c4
      refine g_bipush (v := (-4 : Int32)) C dX11_nodeHere_31 (by decide) ?_
      exact g_iret C dX11_nodeHere_33 hr ⟨hw, rfl, rfl, hWF⟩
    · have hw := hw.2 c4
      refine g_iload_n C dX11_nodeHere_24 rfl 0 rfl ?_
      refine g_bipush (v := (48 : Int32)) C dX11_nodeHere_25 (by decide) ?_
      refine g_isub C dX11_nodeHere_27 ?_
      refine g_goto C dX11_nodeHere_28 (tgt := 33) (by decide) ?_
      exact g_iret C dX11_nodeHere_33 hr ⟨hw, rfl, rfl, hWF⟩
def wp_X11_readsRow_L12 (Qf_1 : KQ) (f0_1 : Nat) (k101 : KI → Int32 → Int32 → Int32 → Int32 → Prop) : Nat → KI → Int32 → Int32 → Int32 → Int32 → Prop
  | 0, _, _, _, _, _ => False
  | n12 + 1, I_1, x2_1, x3_1, x4_1, x5_1 => wp_X11_nodeHere I_1 Qf_1 f0_1 (fun r2 I2 => ((r2 = (-4 : Int32) → k101 I2 x2_1 x3_1 x4_1 x5_1) ∧ (¬ r2 = (-4 : Int32) → wp_X11_nodeHere I2 Qf_1 f0_1 (fun r4 I4 => wp_X11_has x2_1 r4 (fun r5 => ((¬ r5 = 0 → k101 I4 x2_1 x3_1 x4_1 x5_1) ∧ (r5 = 0 → wp_X11_nodeHere I4 Qf_1 f0_1 (fun r7 I7 => ((¬ x4_1 = (-4 : Int32) → wp_X11_linkOf x4_1 r7 (fun r9 => ((¬ x4_1 = (-4 : Int32) → wp_X11_readsRow_L12 Qf_1 f0_1 k101 n12 (sti I7 f0_1 21 ((I7 f0_1 21) + (1 : Int32))) (x2_1 ||| ((1 : Int32) <<< (r7 &&& 31))) x3_1 r7 (x5_1 ||| ((1 : Int32) <<< (r9 &&& 31)))) ∧ (x4_1 = (-4 : Int32) → wp_X11_readsRow_L12 Qf_1 f0_1 k101 n12 (sti I7 f0_1 21 ((I7 f0_1 21) + (1 : Int32))) (x2_1 ||| ((1 : Int32) <<< (r7 &&& 31))) r7 r7 (x5_1 ||| ((1 : Int32) <<< (r9 &&& 31))))))) ∧ (x4_1 = (-4 : Int32) → ((¬ x4_1 = (-4 : Int32) → wp_X11_readsRow_L12 Qf_1 f0_1 k101 n12 (sti I7 f0_1 21 ((I7 f0_1 21) + (1 : Int32))) (x2_1 ||| ((1 : Int32) <<< (r7 &&& 31))) x3_1 r7 (x5_1 ||| (0 : Int32))) ∧ (x4_1 = (-4 : Int32) → wp_X11_readsRow_L12 Qf_1 f0_1 k101 n12 (sti I7 f0_1 21 ((I7 f0_1 21) + (1 : Int32))) (x2_1 ||| ((1 : Int32) <<< (r7 &&& 31))) r7 r7 (x5_1 ||| (0 : Int32))))))))))))))
def wp_X11_readsRow (I : KI) (Q : KQ) (h0 : Nat) (x1 : Int32) (post : Int32 → KI → Prop) : Prop := (∃ q12, wp_X11_readsRow_L12 Q h0 (fun I_13 x2_13 x3_13 x4_13 x5_13 => ((x2_13 = (((1 : Int32) <<< ((I_13 (rq Q h0 0) (0 : Int32).toNatClampNeg) &&& 31)) - (1 : Int32)) → ((x1 = 0 → (vp_in (I_13 h0 22) 8 ∧ post (1 : Int32) (sti I_13 (rq Q h0 23) (I_13 h0 22).toNatClampNeg (x5_13 ||| (0 : Int32))))) ∧ (¬ x1 = 0 → wp_X11_linkOf x3_13 x4_13 (fun r18 => (vp_in (I_13 h0 22) 8 ∧ post (1 : Int32) (sti I_13 (rq Q h0 23) (I_13 h0 22).toNatClampNeg (x5_13 ||| ((1 : Int32) <<< (r18 &&& 31))))))))) ∧ (¬ x2_13 = (((1 : Int32) <<< ((I_13 (rq Q h0 0) (0 : Int32).toNatClampNeg) &&& 31)) - (1 : Int32)) → post (0 : Int32) I_13))) q12 I (0 : Int32) (-4 : Int32) (-4 : Int32) (0 : Int32))
set_option maxHeartbeats 4000000 in
set_option maxRecDepth 100000 in
theorem met_X11_readsRow {Z : Nat → Prop} {A : Nat → Prop} {D : va_G} {D2 : Nat → ClassId} {ad : Nat → Nat} {N : Nat} {T : Nat → Nat × Nat} (l : Launch) {I : KI} {J : KJ} {Q : KQ} {h0 : Nat} {x1 : Int32} {post : Int32 → KI → Prop} (hWF : WF Z N T Q) (z0 : OKr Z N T h0 (11, 0)) (hw : wp_X11_readsRow I Q h0 x1 post) : Met l yX11_readsRow (.code yX11_readsRow cX11_readsRow 7 (some .boolean) :: BIG) ({ frames := 2, cells := 0, slots := 0, locals := 41 }) (Pr D D2 A ad N T I J Q [.ref (ad h0), .int x1]) (va_Qi (fun (r : Int32) (u : KS) => post r u.1 ∧ u.2.1 = J ∧ u.2.2 = Q ∧ WF Z N T u.2.2) (Bw D D2 ad N T) A) 0 0 A := by
  refine Met_GG (lv0 := [(0, .ref (ad h0)), (1, .int x1)]) (by decide +kernel) [.ref (ad h0), .int x1] (Nat.le_of_ble_eq_true rfl) rfl ?_
  intro p e s m below meth c C hr
  have C : CX p s m [.ref (ad h0), .int x1].toArray meth c cX11_readsRow 7 RX11 A D D2 := C
  unfold wp_X11_readsRow at hw
  refine g_iconst (v := (0 : Int32)) C dX11_readsRow_0 (by decide) ?_
  refine g_istore_n (lv' := [(2, .int (0 : Int32)), (0, .ref (ad h0)), (1, .int x1)]) C dX11_readsRow_1 rfl (by decide) rfl ?_
  refine g_bipush (v := (-4 : Int32)) C dX11_readsRow_2 (by decide) ?_
  refine g_istore_n (lv' := [(3, .int (-4 : Int32)), (2, .int (0 : Int32)), (0, .ref (ad h0)), (1, .int x1)]) C dX11_readsRow_4 rfl (by decide) rfl ?_
  refine g_bipush (v := (-4 : Int32)) C dX11_readsRow_5 (by decide) ?_
  refine g_istore (lv' := [(4, .int (-4 : Int32)), (3, .int (-4 : Int32)), (2, .int (0 : Int32)), (0, .ref (ad h0)), (1, .int x1)]) C dX11_readsRow_7 (by decide) rfl ?_
  refine g_iconst (v := (0 : Int32)) C dX11_readsRow_9 (by decide) ?_
  refine g_istore (lv' := [(5, .int (0 : Int32)), (4, .int (-4 : Int32)), (3, .int (-4 : Int32)), (2, .int (0 : Int32)), (0, .ref (ad h0)), (1, .int x1)]) C dX11_readsRow_10 (by decide) rfl ?_
  have K101_u12 : ∀ (I_13 : KI) (x2_13 : Int32) (x3_13 : Int32) (x4_13 : Int32) (x5_13 : Int32), (((x2_13 = (((1 : Int32) <<< ((I_13 (rq Q h0 0) (0 : Int32).toNatClampNeg) &&& 31)) - (1 : Int32)) → ((x1 = 0 → (vp_in (I_13 h0 22) 8 ∧ post (1 : Int32) (sti I_13 (rq Q h0 23) (I_13 h0 22).toNatClampNeg (x5_13 ||| (0 : Int32))))) ∧ (¬ x1 = 0 → wp_X11_linkOf x3_13 x4_13 (fun r18 => (vp_in (I_13 h0 22) 8 ∧ post (1 : Int32) (sti I_13 (rq Q h0 23) (I_13 h0 22).toNatClampNeg (x5_13 ||| ((1 : Int32) <<< (r18 &&& 31))))))))) ∧ (¬ x2_13 = (((1 : Int32) <<< ((I_13 (rq Q h0 0) (0 : Int32).toNatClampNeg) &&& 31)) - (1 : Int32)) → post (0 : Int32) I_13))) → WF Z N T Q → GG p l e ({ frames := 2, cells := 0, slots := 0, locals := 41 }) s m [.ref (ad h0), .int x1].toArray below meth c 7 A D D2 0 0 (MQ below (va_Qi (fun (r : Int32) (u : KS) => post r u.1 ∧ u.2.1 = J ∧ u.2.2 = Q ∧ WF Z N T u.2.2) (Bw D D2 ad N T) A) [.ref (ad h0), .int x1].toArray s 0 0 A) ad N T I_13 J Q 101 [(0, .ref (ad h0)), (1, .int x1), (2, .int x2_13), (3, .int x3_13), (4, .int x4_13), (5, .int x5_13)] [] := by
    intro I_13 x2_13 x3_13 x4_13 x5_13 hw hWF
    refine g_iload_n C dX11_readsRow_101 rfl 2 rfl ?_
    refine g_iconst (v := (1 : Int32)) C dX11_readsRow_102 (by decide) ?_
    refine g_aload_n C dX11_readsRow_103 rfl 0 rfl ?_
    refine g_getQ C dX11_readsRow_104 ft_363 z0 (hWF.q z0 0 rfl) ?_
    have zz14 := hWF.r z0 0 rfl
    refine g_iconst (v := (0 : Int32)) C dX11_readsRow_107 (by decide) ?_
    refine g_iald C dX11_readsRow_108 zz14 (vp_lit (by decide +kernel)) ?_
    refine g_ishl C dX11_readsRow_109 ?_
    refine g_iconst (v := (1 : Int32)) C dX11_readsRow_110 (by decide) ?_
    refine g_isub C dX11_readsRow_111 ?_
    refine g_icmp_eq (tgt := 117) C dX11_readsRow_112 (by decide) (fun c15 => ?_) (fun c15 => ?_)
    · have hw := hw.1 c15
      refine g_aload_n C dX11_readsRow_117 rfl 0 rfl ?_
      refine g_getQ C dX11_readsRow_118 ft_485 z0 (hWF.q z0 23 rfl) ?_
      have zz16 := hWF.r z0 23 rfl
      refine g_aload_n C dX11_readsRow_121 rfl 0 rfl ?_
      refine g_getI C dX11_readsRow_122 ft_486 z0 ?_
      refine g_iload C dX11_readsRow_125 5 rfl ?_
      refine g_iload_n C dX11_readsRow_127 rfl 1 rfl ?_
      refine g_if_eq (tgt := 142) C dX11_readsRow_128 (by decide) (fun c17 => ?_) (fun c17 => ?_)
      · have hw := hw.1 c17
        refine g_iconst (v := (0 : Int32)) C dX11_readsRow_142 (by decide) ?_
        refine g_ior C dX11_readsRow_143 ?_
        refine g_iast C dX11_readsRow_144 zz16 hw.1 ?_
        have hw := hw.2
        refine g_iconst (v := (1 : Int32)) C dX11_readsRow_145 (by decide) ?_
        exact g_zret C dX11_readsRow_146 hr rfl ⟨hw, rfl, rfl, hWF⟩
      · have hw := hw.2 c17
        refine g_iconst (v := (1 : Int32)) C dX11_readsRow_131 (by decide) ?_
        refine g_iload_n C dX11_readsRow_132 rfl 3 rfl ?_
        refine g_iload C dX11_readsRow_133 4 rfl ?_
        refine g_callSi (As := [.int x3_13, .int x4_13]) C dX11_readsRow_135 ft_365 ft_366 (met_X11_linkOf l hWF  hw) ⟨rfl, rfl, Nat.le_of_ble_eq_true rfl, Nat.le_of_ble_eq_true rfl⟩ ⟨Nat.zero_le _, Nat.zero_le _⟩ rfl rfl (Nat.le_of_ble_eq_true rfl) (fun r18 I18 J18 Q18 hp => ?_)
        obtain ⟨hw, eI, eJ, eQ, hWF⟩ := hp
        have eI : I_13 = I18 := Eq.symm eI
        subst eI
        have eJ : J = J18 := Eq.symm eJ
        subst eJ
        have eQ : Q = Q18 := Eq.symm eQ
        subst eQ
        try dsimp only at hw hWF
        refine g_ishl C dX11_readsRow_138 ?_
        refine g_goto C dX11_readsRow_139 (tgt := 143) (by decide) ?_
        refine g_ior C dX11_readsRow_143 ?_
        refine g_iast C dX11_readsRow_144 zz16 hw.1 ?_
        have hw := hw.2
        refine g_iconst (v := (1 : Int32)) C dX11_readsRow_145 (by decide) ?_
        exact g_zret C dX11_readsRow_146 hr rfl ⟨hw, rfl, rfl, hWF⟩
    · have hw := hw.2 c15
      refine g_iconst (v := (0 : Int32)) C dX11_readsRow_115 (by decide) ?_
      exact g_zret C dX11_readsRow_116 hr rfl ⟨hw, rfl, rfl, hWF⟩
  have L12_u12 : ∀ (n12 : Nat) (I_1 : KI) (x2_1 : Int32) (x3_1 : Int32) (x4_1 : Int32) (x5_1 : Int32), wp_X11_readsRow_L12 Q h0 (fun I_13 x2_13 x3_13 x4_13 x5_13 => ((x2_13 = (((1 : Int32) <<< ((I_13 (rq Q h0 0) (0 : Int32).toNatClampNeg) &&& 31)) - (1 : Int32)) → ((x1 = 0 → (vp_in (I_13 h0 22) 8 ∧ post (1 : Int32) (sti I_13 (rq Q h0 23) (I_13 h0 22).toNatClampNeg (x5_13 ||| (0 : Int32))))) ∧ (¬ x1 = 0 → wp_X11_linkOf x3_13 x4_13 (fun r18 => (vp_in (I_13 h0 22) 8 ∧ post (1 : Int32) (sti I_13 (rq Q h0 23) (I_13 h0 22).toNatClampNeg (x5_13 ||| ((1 : Int32) <<< (r18 &&& 31))))))))) ∧ (¬ x2_13 = (((1 : Int32) <<< ((I_13 (rq Q h0 0) (0 : Int32).toNatClampNeg) &&& 31)) - (1 : Int32)) → post (0 : Int32) I_13))) n12 I_1 x2_1 x3_1 x4_1 x5_1 → WF Z N T Q → GG p l e ({ frames := 2, cells := 0, slots := 0, locals := 41 }) s m [.ref (ad h0), .int x1].toArray below meth c 7 A D D2 0 0 (MQ below (va_Qi (fun (r : Int32) (u : KS) => post r u.1 ∧ u.2.1 = J ∧ u.2.2 = Q ∧ WF Z N T u.2.2) (Bw D D2 ad N T) A) [.ref (ad h0), .int x1].toArray s 0 0 A) ad N T I_1 J Q 12 [(0, .ref (ad h0)), (1, .int x1), (2, .int x2_1), (3, .int x3_1), (4, .int x4_1), (5, .int x5_1)] [] := by
    intro n12
    induction n12 with
    | zero => intro I_1 x2_1 x3_1 x4_1 x5_1 hw; exact hw.elim
    | succ n12 ih_u12 =>
      intro I_1 x2_1 x3_1 x4_1 x5_1 hw hWF
      unfold wp_X11_readsRow_L12 at hw
      refine g_aload_n C dX11_readsRow_12 rfl 0 rfl ?_
      refine g_callVi (As := []) C dX11_readsRow_13 ft_387 z0 ft_483 ft_484 (met_X11_nodeHere l hWF z0 hw) ⟨rfl, rfl, Nat.le_of_ble_eq_true rfl, Nat.le_of_ble_eq_true rfl⟩ ⟨Nat.zero_le _, Nat.zero_le _⟩ rfl rfl (Nat.le_of_ble_eq_true rfl) (fun r20 I20 J20 Q20 hp => ?_)
      obtain ⟨hw, eJ, eQ, hWF⟩ := hp
      have eJ : J = J20 := Eq.symm eJ
      subst eJ
      have eQ : Q = Q20 := Eq.symm eQ
      subst eQ
      try dsimp only at hw hWF
      refine g_bipush (v := (-4 : Int32)) C dX11_readsRow_16 (by decide) ?_
      refine g_icmp_eq (tgt := 101) C dX11_readsRow_18 (by decide) (fun c21 => ?_) (fun c21 => ?_)
      · have hw := hw.1 c21
        exact K101_u12 I20 x2_1 x3_1 x4_1 x5_1 hw hWF
      · have hw := hw.2 c21
        refine g_iload_n C dX11_readsRow_21 rfl 2 rfl ?_
        refine g_aload_n C dX11_readsRow_22 rfl 0 rfl ?_
        refine g_callVi (As := []) C dX11_readsRow_23 ft_387 z0 ft_483 ft_484 (met_X11_nodeHere l hWF z0 hw) ⟨rfl, rfl, Nat.le_of_ble_eq_true rfl, Nat.le_of_ble_eq_true rfl⟩ ⟨Nat.zero_le _, Nat.zero_le _⟩ rfl rfl (Nat.le_of_ble_eq_true rfl) (fun r22 I22 J22 Q22 hp => ?_)
        obtain ⟨hw, eJ, eQ, hWF⟩ := hp
        have eJ : J = J22 := Eq.symm eJ
        subst eJ
        have eQ : Q = Q22 := Eq.symm eQ
        subst eQ
        try dsimp only at hw hWF
        refine g_callSi (As := [.int x2_1, .int r22]) C dX11_readsRow_26 ft_381 ft_382 (met_X11_has l hWF  hw) ⟨rfl, rfl, Nat.le_of_ble_eq_true rfl, Nat.le_of_ble_eq_true rfl⟩ ⟨Nat.zero_le _, Nat.zero_le _⟩ rfl rfl (Nat.le_of_ble_eq_true rfl) (fun r23 I23 J23 Q23 hp => ?_)
        obtain ⟨hw, eI, eJ, eQ, hWF⟩ := hp
        have eI : I22 = I23 := Eq.symm eI
        subst eI
        have eJ : J = J23 := Eq.symm eJ
        subst eJ
        have eQ : Q = Q23 := Eq.symm eQ
        subst eQ
        try dsimp only at hw hWF
        refine g_if_ne (tgt := 101) C dX11_readsRow_29 (by decide) (fun c24 => ?_) (fun c24 => ?_)
        · have hw := hw.1 c24
          exact K101_u12 I22 x2_1 x3_1 x4_1 x5_1 hw hWF
        · have hw := hw.2 c24
          refine g_aload_n C dX11_readsRow_32 rfl 0 rfl ?_
          refine g_callVi (As := []) C dX11_readsRow_33 ft_387 z0 ft_483 ft_484 (met_X11_nodeHere l hWF z0 hw) ⟨rfl, rfl, Nat.le_of_ble_eq_true rfl, Nat.le_of_ble_eq_true rfl⟩ ⟨Nat.zero_le _, Nat.zero_le _⟩ rfl rfl (Nat.le_of_ble_eq_true rfl) (fun r25 I25 J25 Q25 hp => ?_)
          obtain ⟨hw, eJ, eQ, hWF⟩ := hp
          have eJ : J = J25 := Eq.symm eJ
          subst eJ
          have eQ : Q = Q25 := Eq.symm eQ
          subst eQ
          try dsimp only at hw hWF
          refine g_istore (lv' := [(6, .int r25), (0, .ref (ad h0)), (1, .int x1), (2, .int x2_1), (3, .int x3_1), (4, .int x4_1), (5, .int x5_1)]) C dX11_readsRow_36 (by decide) rfl ?_
          refine g_iload C dX11_readsRow_38 6 rfl ?_
          refine g_iload C dX11_readsRow_40 5 rfl ?_
          refine g_bipush (v := (-4 : Int32)) C dX11_readsRow_42 (by decide) ?_
          refine g_icmp_ne (tgt := 51) C dX11_readsRow_44 (by decide) (fun c26 => ?_) (fun c26 => ?_)
          · have hw := hw.1 c26
            refine g_iconst (v := (1 : Int32)) C dX11_readsRow_51 (by decide) ?_
            refine g_iload C dX11_readsRow_52 5 rfl ?_
            refine g_iload C dX11_readsRow_54 0 rfl ?_
            refine g_callSi (As := [.int x4_1, .int r25]) C dX11_readsRow_56 ft_365 ft_366 (met_X11_linkOf l hWF  hw) ⟨rfl, rfl, Nat.le_of_ble_eq_true rfl, Nat.le_of_ble_eq_true rfl⟩ ⟨Nat.zero_le _, Nat.zero_le _⟩ rfl rfl (Nat.le_of_ble_eq_true rfl) (fun r27 I27 J27 Q27 hp => ?_)
            obtain ⟨hw, eI, eJ, eQ, hWF⟩ := hp
            have eI : I25 = I27 := Eq.symm eI
            subst eI
            have eJ : J = J27 := Eq.symm eJ
            subst eJ
            have eQ : Q = Q27 := Eq.symm eQ
            subst eQ
            try dsimp only at hw hWF
            refine g_ishl C dX11_readsRow_59 ?_
            refine g_ior C dX11_readsRow_60 ?_
            refine g_istore (lv' := [(5, .int (x5_1 ||| ((1 : Int32) <<< (r27 &&& 31)))), (6, .int r25), (0, .ref (ad h0)), (1, .int x1), (2, .int x2_1), (3, .int x3_1), (4, .int x4_1)]) C dX11_readsRow_61 (by decide) rfl ?_
            refine g_iload C dX11_readsRow_63 6 rfl ?_
            refine g_bipush (v := (-4 : Int32)) C dX11_readsRow_65 (by decide) ?_
            refine g_icmp_ne (tgt := 75) C dX11_readsRow_67 (by decide) (fun c28 => ?_) (fun c28 => ?_)
            · have hw := hw.1 c28
              refine g_iload_n C dX11_readsRow_75 rfl 5 rfl ?_
              refine g_istore_n (lv' := [(3, .int x3_1), (5, .int (x5_1 ||| ((1 : Int32) <<< (r27 &&& 31)))), (6, .int r25), (0, .ref (ad h0)), (1, .int x1), (2, .int x2_1), (4, .int x4_1)]) C dX11_readsRow_76 rfl (by decide) rfl ?_
              refine g_iload_n C dX11_readsRow_77 rfl 5 rfl ?_
              refine g_iconst (v := (1 : Int32)) C dX11_readsRow_78 (by decide) ?_
              refine g_iload C dX11_readsRow_79 2 rfl ?_
              refine g_ishl C dX11_readsRow_81 ?_
              refine g_ior C dX11_readsRow_82 ?_
              refine g_istore_n (lv' := [(2, .int (x2_1 ||| ((1 : Int32) <<< (r25 &&& 31)))), (3, .int x3_1), (5, .int (x5_1 ||| ((1 : Int32) <<< (r27 &&& 31)))), (6, .int r25), (0, .ref (ad h0)), (1, .int x1), (4, .int x4_1)]) C dX11_readsRow_83 rfl (by decide) rfl ?_
              refine g_iload C dX11_readsRow_84 3 rfl ?_
              refine g_istore (lv' := [(4, .int r25), (2, .int (x2_1 ||| ((1 : Int32) <<< (r25 &&& 31)))), (3, .int x3_1), (5, .int (x5_1 ||| ((1 : Int32) <<< (r27 &&& 31)))), (6, .int r25), (0, .ref (ad h0)), (1, .int x1)]) C dX11_readsRow_86 (by decide) rfl ?_
              refine g_aload_n C dX11_readsRow_88 rfl 5 rfl ?_
              refine g_dup C dX11_readsRow_89 rfl ?_
              refine g_getI C dX11_readsRow_90 ft_479 z0 ?_
              refine g_iconst (v := (1 : Int32)) C dX11_readsRow_93 (by decide) ?_
              refine g_iadd C dX11_readsRow_94 ?_
              refine g_putI C dX11_readsRow_95 ft_480 z0 ?_
              refine g_goto C dX11_readsRow_98 (tgt := 12) (by decide) ?_
              refine g_sub [5, 6, 1, 2, 0, 3] rfl ?_
              exact ih_u12 (sti I25 h0 21 ((I25 h0 21) + (1 : Int32))) (x2_1 ||| ((1 : Int32) <<< (r25 &&& 31))) x3_1 r25 (x5_1 ||| ((1 : Int32) <<< (r27 &&& 31))) hw hWF
            · have hw := hw.2 c28
              refine g_iload C dX11_readsRow_70 1 rfl ?_
              refine g_goto C dX11_readsRow_72 (tgt := 76) (by decide) ?_
              refine g_istore_n (lv' := [(3, .int r25), (5, .int (x5_1 ||| ((1 : Int32) <<< (r27 &&& 31)))), (6, .int r25), (0, .ref (ad h0)), (1, .int x1), (2, .int x2_1), (4, .int x4_1)]) C dX11_readsRow_76 rfl (by decide) rfl ?_
              refine g_iload_n C dX11_readsRow_77 rfl 5 rfl ?_
              refine g_iconst (v := (1 : Int32)) C dX11_readsRow_78 (by decide) ?_
              refine g_iload C dX11_readsRow_79 2 rfl ?_
              refine g_ishl C dX11_readsRow_81 ?_
              refine g_ior C dX11_readsRow_82 ?_
              refine g_istore_n (lv' := [(2, .int (x2_1 ||| ((1 : Int32) <<< (r25 &&& 31)))), (3, .int r25), (5, .int (x5_1 ||| ((1 : Int32) <<< (r27 &&& 31)))), (6, .int r25), (0, .ref (ad h0)), (1, .int x1), (4, .int x4_1)]) C dX11_readsRow_83 rfl (by decide) rfl ?_
              refine g_iload C dX11_readsRow_84 3 rfl ?_
              refine g_istore (lv' := [(4, .int r25), (2, .int (x2_1 ||| ((1 : Int32) <<< (r25 &&& 31)))), (3, .int r25), (5, .int (x5_1 ||| ((1 : Int32) <<< (r27 &&& 31)))), (6, .int r25), (0, .ref (ad h0)), (1, .int x1)]) C dX11_readsRow_86 (by decide) rfl ?_
              refine g_aload_n C dX11_readsRow_88 rfl 5 rfl ?_
              refine g_dup C dX11_readsRow_89 rfl ?_
              refine g_getI C dX11_readsRow_90 ft_479 z0 ?_
              refine g_iconst (v := (1 : Int32)) C dX11_readsRow_93 (by decide) ?_
              refine g_iadd C dX11_readsRow_94 ?_
              refine g_putI C dX11_readsRow_95 ft_480 z0 ?_
              refine g_goto C dX11_readsRow_98 (tgt := 12) (by decide) ?_
              refine g_sub [5, 6, 1, 2, 0, 3] rfl ?_
              exact ih_u12 (sti I25 h0 21 ((I25 h0 21) + (1 : Int32))) (x2_1 ||| ((1 : Int32) <<< (r25 &&& 31))) r25 r25 (x5_1 ||| ((1 : Int32) <<< (r27 &&& 31))) hw hWF
          · have hw := hw.2 c26
            refine g_iconst (v := (0 : Int32)) C dX11_readsRow_47 (by decide) ?_
            refine g_goto C dX11_readsRow_48 (tgt := 60) (by decide) ?_
            refine g_ior C dX11_readsRow_60 ?_
            refine g_istore (lv' := [(5, .int (x5_1 ||| (0 : Int32))), (6, .int r25), (0, .ref (ad h0)), (1, .int x1), (2, .int x2_1), (3, .int x3_1), (4, .int x4_1)]) C dX11_readsRow_61 (by decide) rfl ?_
            refine g_iload C dX11_readsRow_63 6 rfl ?_
            refine g_bipush (v := (-4 : Int32)) C dX11_readsRow_65 (by decide) ?_
            refine g_icmp_ne (tgt := 75) C dX11_readsRow_67 (by decide) (fun c29 => ?_) (fun c29 => ?_)
            · have hw := hw.1 c29
              refine g_iload_n C dX11_readsRow_75 rfl 5 rfl ?_
              refine g_istore_n (lv' := [(3, .int x3_1), (5, .int (x5_1 ||| (0 : Int32))), (6, .int r25), (0, .ref (ad h0)), (1, .int x1), (2, .int x2_1), (4, .int x4_1)]) C dX11_readsRow_76 rfl (by decide) rfl ?_
              refine g_iload_n C dX11_readsRow_77 rfl 5 rfl ?_
              refine g_iconst (v := (1 : Int32)) C dX11_readsRow_78 (by decide) ?_
              refine g_iload C dX11_readsRow_79 2 rfl ?_
              refine g_ishl C dX11_readsRow_81 ?_
              refine g_ior C dX11_readsRow_82 ?_
              refine g_istore_n (lv' := [(2, .int (x2_1 ||| ((1 : Int32) <<< (r25 &&& 31)))), (3, .int x3_1), (5, .int (x5_1 ||| (0 : Int32))), (6, .int r25), (0, .ref (ad h0)), (1, .int x1), (4, .int x4_1)]) C dX11_readsRow_83 rfl (by decide) rfl ?_
              refine g_iload C dX11_readsRow_84 3 rfl ?_
              refine g_istore (lv' := [(4, .int r25), (2, .int (x2_1 ||| ((1 : Int32) <<< (r25 &&& 31)))), (3, .int x3_1), (5, .int (x5_1 ||| (0 : Int32))), (6, .int r25), (0, .ref (ad h0)), (1, .int x1)]) C dX11_readsRow_86 (by decide) rfl ?_
              refine g_aload_n C dX11_readsRow_88 rfl 5 rfl ?_
              refine g_dup C dX11_readsRow_89 rfl ?_
              refine g_getI C dX11_readsRow_90 ft_479 z0 ?_
              refine g_iconst (v := (1 : Int32)) C dX11_readsRow_93 (by decide) ?_
              refine g_iadd C dX11_readsRow_94 ?_
              refine g_putI C dX11_readsRow_95 ft_480 z0 ?_
              refine g_goto C dX11_readsRow_98 (tgt := 12) (by decide) ?_
              refine g_sub [5, 6, 1, 2, 0, 3] rfl ?_
              exact ih_u12 (sti I25 h0 21 ((I25 h0 21) + (1 : Int32))) (x2_1 ||| ((1 : Int32) <<< (r25 &&& 31))) x3_1 r25 (x5_1 ||| (0 : Int32)) hw hWF
            · have hw := hw.2 c29
              refine g_iload C dX11_readsRow_70 1 rfl ?_
              refine g_goto C dX11_readsRow_72 (tgt := 76) (by decide) ?_
              refine g_istore_n (lv' := [(3, .int r25), (5, .int (x5_1 ||| (0 : Int32))), (6, .int r25), (0, .ref (ad h0)), (1, .int x1), (2, .int x2_1), (4, .int x4_1)]) C dX11_readsRow_76 rfl (by decide) rfl ?_
              refine g_iload_n C dX11_readsRow_77 rfl 5 rfl ?_
              refine g_iconst (v := (1 : Int32)) C dX11_readsRow_78 (by decide) ?_
              refine g_iload C dX11_readsRow_79 2 rfl ?_
              refine g_ishl C dX11_readsRow_81 ?_
              refine g_ior C dX11_readsRow_82 ?_
              refine g_istore_n (lv' := [(2, .int (x2_1 ||| ((1 : Int32) <<< (r25 &&& 31)))), (3, .int r25), (5, .int (x5_1 ||| (0 : Int32))), (6, .int r25), (0, .ref (ad h0)), (1, .int x1), (4, .int x4_1)]) C dX11_readsRow_83 rfl (by decide) rfl ?_
              refine g_iload C dX11_readsRow_84 3 rfl ?_
              refine g_istore (lv' := [(4, .int r25), (2, .int (x2_1 ||| ((1 : Int32) <<< (r25 &&& 31)))), (3, .int r25), (5, .int (x5_1 ||| (0 : Int32))), (6, .int r25), (0, .ref (ad h0)), (1, .int x1)]) C dX11_readsRow_86 (by decide) rfl ?_
              refine g_aload_n C dX11_readsRow_88 rfl 5 rfl ?_
              refine g_dup C dX11_readsRow_89 rfl ?_
              refine g_getI C dX11_readsRow_90 ft_479 z0 ?_
              refine g_iconst (v := (1 : Int32)) C dX11_readsRow_93 (by decide) ?_
              refine g_iadd C dX11_readsRow_94 ?_
              refine g_putI C dX11_readsRow_95 ft_480 z0 ?_
              refine g_goto C dX11_readsRow_98 (tgt := 12) (by decide) ?_
              refine g_sub [5, 6, 1, 2, 0, 3] rfl ?_
              exact ih_u12 (sti I25 h0 21 ((I25 h0 21) + (1 : Int32))) (x2_1 ||| ((1 : Int32) <<< (r25 &&& 31))) r25 r25 (x5_1 ||| (0 : Int32)) hw hWF
  obtain ⟨n_u12, hw⟩ := hw
  refine g_sub [4, 5, 3, 2, 1, 0] rfl ?_
  exact L12_u12 n_u12 I (0 : Int32) (-4 : Int32) (-4 : Int32) (0 : Int32) hw hWF
def wp_X11_readsStar_L35 (Qf_4 : KQ) (f0_4 : Nat) (f1_4 : Int32) (post : Int32 → KI → Prop) : Nat → KI → Int32 → Prop
  | 0, _, _ => False
  | n35 + 1, I_4, x2_4 => (((I_4 (rq Qf_4 f0_4 0) (0 : Int32).toNatClampNeg) ≤ x2_4 → post (1 : Int32) I_4) ∧ (¬ (I_4 (rq Qf_4 f0_4 0) (0 : Int32).toNatClampNeg) ≤ x2_4 → (vp_in (I_4 f0_4 22) 8 ∧ ((¬ x2_4 = f1_4 → wp_X11_linkOf x2_4 f1_4 (fun r9 => (vp_in (I_4 f0_4 22) 8 ∧ wp_X11_readsStar_L35 Qf_4 f0_4 f1_4 post n35 (sti I_4 (rq Qf_4 f0_4 23) (I_4 f0_4 22).toNatClampNeg ((I_4 (rq Qf_4 f0_4 23) (I_4 f0_4 22).toNatClampNeg) ||| ((1 : Int32) <<< (r9 &&& 31)))) (x2_4 + (1 : Int32))))) ∧ (x2_4 = f1_4 → (vp_in (I_4 f0_4 22) 8 ∧ wp_X11_readsStar_L35 Qf_4 f0_4 f1_4 post n35 (sti I_4 (rq Qf_4 f0_4 23) (I_4 f0_4 22).toNatClampNeg ((I_4 (rq Qf_4 f0_4 23) (I_4 f0_4 22).toNatClampNeg) ||| (0 : Int32))) (x2_4 + (1 : Int32))))))))
def wp_X11_readsStar (I : KI) (Q : KQ) (h0 : Nat) (post : Int32 → KI → Prop) : Prop := wp_X11_nodeHere I Q h0 (fun r1 I1 => ((¬ r1 = (-4 : Int32) → (vp_in ((sti I1 h0 21 ((I1 h0 21) + (1 : Int32))) h0 22) 8 ∧ (∃ q35, wp_X11_readsStar_L35 Q h0 r1 post q35 (sti (sti I1 h0 21 ((I1 h0 21) + (1 : Int32))) (rq Q h0 23) ((sti I1 h0 21 ((I1 h0 21) + (1 : Int32))) h0 22).toNatClampNeg (0 : Int32)) (0 : Int32)))) ∧ (r1 = (-4 : Int32) → post (0 : Int32) I1)))
set_option maxHeartbeats 4000000 in
set_option maxRecDepth 100000 in
theorem met_X11_readsStar {Z : Nat → Prop} {A : Nat → Prop} {D : va_G} {D2 : Nat → ClassId} {ad : Nat → Nat} {N : Nat} {T : Nat → Nat × Nat} (l : Launch) {I : KI} {J : KJ} {Q : KQ} {h0 : Nat} {post : Int32 → KI → Prop} (hWF : WF Z N T Q) (z0 : OKr Z N T h0 (11, 0)) (hw : wp_X11_readsStar I Q h0 post) : Met l yX11_readsStar (.code yX11_readsStar cX11_readsStar 3 (some .boolean) :: BIG) ({ frames := 2, cells := 0, slots := 0, locals := 41 }) (Pr D D2 A ad N T I J Q [.ref (ad h0)]) (va_Qi (fun (r : Int32) (u : KS) => post r u.1 ∧ u.2.1 = J ∧ u.2.2 = Q ∧ WF Z N T u.2.2) (Bw D D2 ad N T) A) 0 0 A := by
  refine Met_GG (lv0 := [(0, .ref (ad h0))]) (by decide +kernel) [.ref (ad h0)] (Nat.le_of_ble_eq_true rfl) rfl ?_
  intro p e s m below meth c C hr
  have C : CX p s m [.ref (ad h0)].toArray meth c cX11_readsStar 3 RX11 A D D2 := C
  unfold wp_X11_readsStar at hw
  refine g_aload_n C dX11_readsStar_0 rfl 0 rfl ?_
  refine g_callVi (As := []) C dX11_readsStar_1 ft_387 z0 ft_483 ft_484 (met_X11_nodeHere l hWF z0 hw) ⟨rfl, rfl, Nat.le_of_ble_eq_true rfl, Nat.le_of_ble_eq_true rfl⟩ ⟨Nat.zero_le _, Nat.zero_le _⟩ rfl rfl (Nat.le_of_ble_eq_true rfl) (fun r1 I1 J1 Q1 hp => ?_)
  obtain ⟨hw, eJ, eQ, hWF⟩ := hp
  have eJ : J = J1 := Eq.symm eJ
  subst eJ
  have eQ : Q = Q1 := Eq.symm eQ
  subst eQ
  try dsimp only at hw hWF
  refine g_istore_n (lv' := [(1, .int r1), (0, .ref (ad h0))]) C dX11_readsStar_4 rfl (by decide) rfl ?_
  refine g_iload_n C dX11_readsStar_5 rfl 0 rfl ?_
  refine g_bipush (v := (-4 : Int32)) C dX11_readsStar_6 (by decide) ?_
  refine g_icmp_ne (tgt := 13) C dX11_readsStar_8 (by decide) (fun c2 => ?_) (fun c2 => ?_)
  · have hw := hw.1 c2
    refine g_aload_n C dX11_readsStar_13 rfl 1 rfl ?_
    refine g_dup C dX11_readsStar_14 rfl ?_
    refine g_getI C dX11_readsStar_15 ft_479 z0 ?_
    refine g_iconst (v := (1 : Int32)) C dX11_readsStar_18 (by decide) ?_
    refine g_iadd C dX11_readsStar_19 ?_
    refine g_putI C dX11_readsStar_20 ft_480 z0 ?_
    refine g_aload_n C dX11_readsStar_23 rfl 1 rfl ?_
    refine g_getQ C dX11_readsStar_24 ft_485 z0 (hWF.q z0 23 rfl) ?_
    have zz3 := hWF.r z0 23 rfl
    refine g_aload_n C dX11_readsStar_27 rfl 1 rfl ?_
    refine g_getI C dX11_readsStar_28 ft_486 z0 ?_
    refine g_iconst (v := (0 : Int32)) C dX11_readsStar_31 (by decide) ?_
    refine g_iast C dX11_readsStar_32 zz3 hw.1 ?_
    have hw := hw.2
    refine g_iconst (v := (0 : Int32)) C dX11_readsStar_33 (by decide) ?_
    refine g_istore_n (lv' := [(2, .int (0 : Int32)), (1, .int r1), (0, .ref (ad h0))]) C dX11_readsStar_34 rfl (by decide) rfl ?_
    have L35_u10 : ∀ (n35 : Nat) (I_4 : KI) (x2_4 : Int32), wp_X11_readsStar_L35 Q h0 r1 post n35 I_4 x2_4 → WF Z N T Q → GG p l e ({ frames := 2, cells := 0, slots := 0, locals := 41 }) s m [.ref (ad h0)].toArray below meth c 3 A D D2 0 0 (MQ below (va_Qi (fun (r : Int32) (u : KS) => post r u.1 ∧ u.2.1 = J ∧ u.2.2 = Q ∧ WF Z N T u.2.2) (Bw D D2 ad N T) A) [.ref (ad h0)].toArray s 0 0 A) ad N T I_4 J Q 35 [(0, .ref (ad h0)), (1, .int r1), (2, .int x2_4)] [] := by
      intro n35
      induction n35 with
      | zero => intro I_4 x2_4 hw; exact hw.elim
      | succ n35 ih_u10 =>
        intro I_4 x2_4 hw hWF
        unfold wp_X11_readsStar_L35 at hw
        refine g_iload_n C dX11_readsStar_35 rfl 2 rfl ?_
        refine g_aload_n C dX11_readsStar_36 rfl 0 rfl ?_
        refine g_getQ C dX11_readsStar_37 ft_363 z0 (hWF.q z0 0 rfl) ?_
        have zz12 := hWF.r z0 0 rfl
        refine g_iconst (v := (0 : Int32)) C dX11_readsStar_40 (by decide) ?_
        refine g_iald C dX11_readsStar_41 zz12 (vp_lit (by decide +kernel)) ?_
        refine g_icmp_ge (tgt := 79) C dX11_readsStar_42 (by decide) (fun c13 => ?_) (fun c13 => ?_)
        · have hw := hw.1 c13
          refine g_iconst (v := (1 : Int32)) C dX11_readsStar_79 (by decide) ?_
          exact g_zret C dX11_readsStar_80 hr rfl ⟨hw, rfl, rfl, hWF⟩
        · have hw := hw.2 c13
          refine g_aload_n C dX11_readsStar_45 rfl 0 rfl ?_
          refine g_getQ C dX11_readsStar_46 ft_485 z0 (hWF.q z0 23 rfl) ?_
          have zz14 := hWF.r z0 23 rfl
          refine g_aload_n C dX11_readsStar_49 rfl 0 rfl ?_
          refine g_getI C dX11_readsStar_50 ft_486 z0 ?_
          refine g_dup2 C dX11_readsStar_53 rfl rfl ?_
          refine g_iald C dX11_readsStar_54 zz14 hw.1 ?_
          have hw := hw.2
          refine g_iload_n C dX11_readsStar_55 rfl 2 rfl ?_
          refine g_iload_n C dX11_readsStar_56 rfl 1 rfl ?_
          refine g_icmp_ne (tgt := 64) C dX11_readsStar_57 (by decide) (fun c15 => ?_) (fun c15 => ?_)
          · have hw := hw.1 c15
            refine g_iconst (v := (1 : Int32)) C dX11_readsStar_64 (by decide) ?_
            refine g_iload_n C dX11_readsStar_65 rfl 2 rfl ?_
            refine g_iload_n C dX11_readsStar_66 rfl 1 rfl ?_
            refine g_callSi (As := [.int x2_4, .int r1]) C dX11_readsStar_67 ft_365 ft_366 (met_X11_linkOf l hWF  hw) ⟨rfl, rfl, Nat.le_of_ble_eq_true rfl, Nat.le_of_ble_eq_true rfl⟩ ⟨Nat.zero_le _, Nat.zero_le _⟩ rfl rfl (Nat.le_of_ble_eq_true rfl) (fun r16 I16 J16 Q16 hp => ?_)
            obtain ⟨hw, eI, eJ, eQ, hWF⟩ := hp
            have eI : I_4 = I16 := Eq.symm eI
            subst eI
            have eJ : J = J16 := Eq.symm eJ
            subst eJ
            have eQ : Q = Q16 := Eq.symm eQ
            subst eQ
            try dsimp only at hw hWF
            refine g_ishl C dX11_readsStar_70 ?_
            refine g_ior C dX11_readsStar_71 ?_
            refine g_iast C dX11_readsStar_72 zz14 hw.1 ?_
            have hw := hw.2
            refine g_iinc (v := (x2_4 + (1 : Int32))) (lv' := [(2, .int (x2_4 + (1 : Int32))), (0, .ref (ad h0)), (1, .int r1)]) C dX11_readsStar_73 (q := 2) rfl rfl (by decide) rfl ?_
            refine g_goto C dX11_readsStar_76 (tgt := 35) (by decide) ?_
            refine g_sub [1, 2, 0] rfl ?_
            exact ih_u10 (sti I_4 (rq Q h0 23) (I_4 h0 22).toNatClampNeg ((I_4 (rq Q h0 23) (I_4 h0 22).toNatClampNeg) ||| ((1 : Int32) <<< (r16 &&& 31)))) (x2_4 + (1 : Int32)) hw hWF
          · have hw := hw.2 c15
            refine g_iconst (v := (0 : Int32)) C dX11_readsStar_60 (by decide) ?_
            refine g_goto C dX11_readsStar_61 (tgt := 71) (by decide) ?_
            refine g_ior C dX11_readsStar_71 ?_
            refine g_iast C dX11_readsStar_72 zz14 hw.1 ?_
            have hw := hw.2
            refine g_iinc (v := (x2_4 + (1 : Int32))) (lv' := [(2, .int (x2_4 + (1 : Int32))), (0, .ref (ad h0)), (1, .int r1)]) C dX11_readsStar_73 (q := 2) rfl rfl (by decide) rfl ?_
            refine g_goto C dX11_readsStar_76 (tgt := 35) (by decide) ?_
            refine g_sub [1, 2, 0] rfl ?_
            exact ih_u10 (sti I_4 (rq Q h0 23) (I_4 h0 22).toNatClampNeg ((I_4 (rq Q h0 23) (I_4 h0 22).toNatClampNeg) ||| (0 : Int32))) (x2_4 + (1 : Int32)) hw hWF
    obtain ⟨n_u10, hw⟩ := hw
    refine g_sub [2, 1, 0] rfl ?_
    exact L35_u10 n_u10 (sti (sti I1 h0 21 ((I1 h0 21) + (1 : Int32))) (rq Q h0 23) ((sti I1 h0 21 ((I1 h0 21) + (1 : Int32))) h0 22).toNatClampNeg (0 : Int32)) (0 : Int32) hw hWF
  · have hw := hw.2 c2
    refine g_iconst (v := (0 : Int32)) C dX11_readsStar_11 (by decide) ?_
    exact g_zret C dX11_readsStar_12 hr rfl ⟨hw, rfl, rfl, hWF⟩
def wp_X11_readsLinks_L4 (Qf_1 : KQ) (f0_1 : Nat) (post : Int32 → KI → Prop) (k143 : KI → Int32 → Prop) : Nat → KI → Int32 → Int32 → Prop
  | 0, _, _, _ => False
  | n4 + 1, I_1, x1_1, x2_1 => ((x2_1 = 0 → k143 I_1 x1_1) ∧ (¬ x2_1 = 0 → wp_X11_nodeHere I_1 Qf_1 f0_1 (fun r3 I3 => ((¬ r3 = (-4 : Int32) → wp_X11_here (sti I3 f0_1 21 ((I3 f0_1 21) + (1 : Int32))) Qf_1 f0_1 (fun r5 I5 => ((r5 = (45 : Int32) → wp_X11_nodeHere (sti I5 f0_1 21 ((I5 f0_1 21) + (1 : Int32))) Qf_1 f0_1 (fun r7 I7 => ((r7 = (-4 : Int32) → post (0 : Int32) I7) ∧ (¬ r7 = (-4 : Int32) → ((r7 = r3 → post (0 : Int32) I7) ∧ (¬ r7 = r3 → wp_X11_linkOf r3 r7 (fun r10 => wp_X11_has x1_1 r10 (fun r11 => ((r11 = 0 → wp_X11_linkOf r3 r7 (fun r13 => wp_X11_here (sti I7 f0_1 21 ((I7 f0_1 21) + (1 : Int32))) Qf_1 f0_1 (fun r14 I14 => ((¬ r14 = (44 : Int32) → wp_X11_readsLinks_L4 Qf_1 f0_1 post k143 n4 (sti I14 f0_1 21 ((I14 f0_1 21) + (0 : Int32))) (x1_1 ||| ((1 : Int32) <<< (r13 &&& 31))) (0 : Int32)) ∧ (r14 = (44 : Int32) → wp_X11_readsLinks_L4 Qf_1 f0_1 post k143 n4 (sti I14 f0_1 21 ((I14 f0_1 21) + (1 : Int32))) (x1_1 ||| ((1 : Int32) <<< (r13 &&& 31))) (1 : Int32)))))) ∧ (¬ r11 = 0 → post (0 : Int32) I7)))))))))) ∧ (¬ r5 = (45 : Int32) → post (0 : Int32) I5)))) ∧ (r3 = (-4 : Int32) → post (0 : Int32) I3)))))
def wp_X11_readsLinks (I : KI) (Q : KQ) (h0 : Nat) (post : Int32 → KI → Prop) : Prop := (∃ q4, wp_X11_readsLinks_L4 Q h0 post (fun I_19 x1_19 => (vp_in (I_19 h0 22) 8 ∧ wp_X11_areJoined (sti I_19 (rq Q h0 23) (I_19 h0 22).toNatClampNeg x1_19) Q h0 x1_19 (fun r21 => ((r21 = 0 ∨ r21 = 1) ∧ post r21 (sti I_19 (rq Q h0 23) (I_19 h0 22).toNatClampNeg x1_19))))) q4 I (0 : Int32) (1 : Int32))
set_option maxHeartbeats 4000000 in
set_option maxRecDepth 100000 in
theorem met_X11_readsLinks {Z : Nat → Prop} {A : Nat → Prop} {D : va_G} {D2 : Nat → ClassId} {ad : Nat → Nat} {N : Nat} {T : Nat → Nat × Nat} (l : Launch) {I : KI} {J : KJ} {Q : KQ} {h0 : Nat} {post : Int32 → KI → Prop} (hWF : WF Z N T Q) (z0 : OKr Z N T h0 (11, 0)) (hw : wp_X11_readsLinks I Q h0 post) : Met l yX11_readsLinks (.code yX11_readsLinks cX11_readsLinks 5 (some .boolean) :: BIG) ({ frames := 3, cells := 0, slots := 0, locals := 72 }) (Pr D D2 A ad N T I J Q [.ref (ad h0)]) (va_Qi (fun (r : Int32) (u : KS) => post r u.1 ∧ u.2.1 = J ∧ u.2.2 = Q ∧ WF Z N T u.2.2) (Bw D D2 ad N T) A) 0 0 A := by
  refine Met_GG (lv0 := [(0, .ref (ad h0))]) (by decide +kernel) [.ref (ad h0)] (Nat.le_of_ble_eq_true rfl) rfl ?_
  intro p e s m below meth c C hr
  have C : CX p s m [.ref (ad h0)].toArray meth c cX11_readsLinks 5 RX11 A D D2 := C
  unfold wp_X11_readsLinks at hw
  refine g_iconst (v := (0 : Int32)) C dX11_readsLinks_0 (by decide) ?_
  refine g_istore_n (lv' := [(1, .int (0 : Int32)), (0, .ref (ad h0))]) C dX11_readsLinks_1 rfl (by decide) rfl ?_
  refine g_iconst (v := (1 : Int32)) C dX11_readsLinks_2 (by decide) ?_
  refine g_istore_n (lv' := [(2, .int (1 : Int32)), (1, .int (0 : Int32)), (0, .ref (ad h0))]) C dX11_readsLinks_3 rfl (by decide) rfl ?_
  have K143_u18 : ∀ (I_19 : KI) (x1_19 : Int32), ((vp_in (I_19 h0 22) 8 ∧ wp_X11_areJoined (sti I_19 (rq Q h0 23) (I_19 h0 22).toNatClampNeg x1_19) Q h0 x1_19 (fun r21 => ((r21 = 0 ∨ r21 = 1) ∧ post r21 (sti I_19 (rq Q h0 23) (I_19 h0 22).toNatClampNeg x1_19))))) → WF Z N T Q → GG p l e ({ frames := 3, cells := 0, slots := 0, locals := 72 }) s m [.ref (ad h0)].toArray below meth c 5 A D D2 0 0 (MQ below (va_Qi (fun (r : Int32) (u : KS) => post r u.1 ∧ u.2.1 = J ∧ u.2.2 = Q ∧ WF Z N T u.2.2) (Bw D D2 ad N T) A) [.ref (ad h0)].toArray s 0 0 A) ad N T I_19 J Q 143 [(0, .ref (ad h0)), (1, .int x1_19)] [] := by
    intro I_19 x1_19 hw hWF
    refine g_aload_n C dX11_readsLinks_143 rfl 0 rfl ?_
    refine g_getQ C dX11_readsLinks_144 ft_485 z0 (hWF.q z0 23 rfl) ?_
    have zz20 := hWF.r z0 23 rfl
    refine g_aload_n C dX11_readsLinks_147 rfl 0 rfl ?_
    refine g_getI C dX11_readsLinks_148 ft_486 z0 ?_
    refine g_iload_n C dX11_readsLinks_151 rfl 1 rfl ?_
    refine g_iast C dX11_readsLinks_152 zz20 hw.1 ?_
    have hw := hw.2
    refine g_aload_n C dX11_readsLinks_153 rfl 0 rfl ?_
    refine g_iload_n C dX11_readsLinks_154 rfl 1 rfl ?_
    refine g_callVi (As := [.int x1_19]) C dX11_readsLinks_155 ft_387 z0 ft_446 ft_447 (met_X11_areJoined l hWF z0 hw) ⟨rfl, rfl, Nat.le_of_ble_eq_true rfl, Nat.le_of_ble_eq_true rfl⟩ ⟨Nat.zero_le _, Nat.zero_le _⟩ rfl rfl (Nat.le_of_ble_eq_true rfl) (fun r21 I21 J21 Q21 hp => ?_)
    obtain ⟨hw, eI, eJ, eQ, hWF⟩ := hp
    have eI : (sti I_19 (rq Q h0 23) (I_19 h0 22).toNatClampNeg x1_19) = I21 := Eq.symm eI
    subst eI
    have eJ : J = J21 := Eq.symm eJ
    subst eJ
    have eQ : Q = Q21 := Eq.symm eQ
    subst eQ
    try dsimp only at hw hWF
    exact g_zret C dX11_readsLinks_158 hr (nar_b hw.1) ⟨hw.2, rfl, rfl, hWF⟩
  have L4_u18 : ∀ (n4 : Nat) (I_1 : KI) (x1_1 : Int32) (x2_1 : Int32), wp_X11_readsLinks_L4 Q h0 post (fun I_19 x1_19 => (vp_in (I_19 h0 22) 8 ∧ wp_X11_areJoined (sti I_19 (rq Q h0 23) (I_19 h0 22).toNatClampNeg x1_19) Q h0 x1_19 (fun r21 => ((r21 = 0 ∨ r21 = 1) ∧ post r21 (sti I_19 (rq Q h0 23) (I_19 h0 22).toNatClampNeg x1_19))))) n4 I_1 x1_1 x2_1 → WF Z N T Q → GG p l e ({ frames := 3, cells := 0, slots := 0, locals := 72 }) s m [.ref (ad h0)].toArray below meth c 5 A D D2 0 0 (MQ below (va_Qi (fun (r : Int32) (u : KS) => post r u.1 ∧ u.2.1 = J ∧ u.2.2 = Q ∧ WF Z N T u.2.2) (Bw D D2 ad N T) A) [.ref (ad h0)].toArray s 0 0 A) ad N T I_1 J Q 4 [(0, .ref (ad h0)), (1, .int x1_1), (2, .int x2_1)] [] := by
    intro n4
    induction n4 with
    | zero => intro I_1 x1_1 x2_1 hw; exact hw.elim
    | succ n4 ih_u18 =>
      intro I_1 x1_1 x2_1 hw hWF
      unfold wp_X11_readsLinks_L4 at hw
      refine g_iload_n C dX11_readsLinks_4 rfl 2 rfl ?_
      refine g_if_eq (tgt := 143) C dX11_readsLinks_5 (by decide) (fun c23 => ?_) (fun c23 => ?_)
      · have hw := hw.1 c23
        refine g_sub [0, 1] rfl ?_
        exact K143_u18 I_1 x1_1 hw hWF
      · have hw := hw.2 c23
        refine g_aload_n C dX11_readsLinks_8 rfl 0 rfl ?_
        refine g_callVi (As := []) C dX11_readsLinks_9 ft_387 z0 ft_483 ft_484 (met_X11_nodeHere l hWF z0 hw) ⟨rfl, rfl, Nat.le_of_ble_eq_true rfl, Nat.le_of_ble_eq_true rfl⟩ ⟨Nat.zero_le _, Nat.zero_le _⟩ rfl rfl (Nat.le_of_ble_eq_true rfl) (fun r24 I24 J24 Q24 hp => ?_)
        obtain ⟨hw, eJ, eQ, hWF⟩ := hp
        have eJ : J = J24 := Eq.symm eJ
        subst eJ
        have eQ : Q = Q24 := Eq.symm eQ
        subst eQ
        try dsimp only at hw hWF
        refine g_istore_n (lv' := [(3, .int r24), (0, .ref (ad h0)), (1, .int x1_1), (2, .int x2_1)]) C dX11_readsLinks_12 rfl (by decide) rfl ?_
        refine g_iload_n C dX11_readsLinks_13 rfl 0 rfl ?_
        refine g_bipush (v := (-4 : Int32)) C dX11_readsLinks_14 (by decide) ?_
        refine g_icmp_ne (tgt := 21) C dX11_readsLinks_16 (by decide) (fun c25 => ?_) (fun c25 => ?_)
        · have hw := hw.1 c25
          refine g_aload_n C dX11_readsLinks_21 rfl 1 rfl ?_
          refine g_dup C dX11_readsLinks_22 rfl ?_
          refine g_getI C dX11_readsLinks_23 ft_479 z0 ?_
          refine g_iconst (v := (1 : Int32)) C dX11_readsLinks_26 (by decide) ?_
          refine g_iadd C dX11_readsLinks_27 ?_
          refine g_putI C dX11_readsLinks_28 ft_480 z0 ?_
          refine g_aload_n C dX11_readsLinks_31 rfl 1 rfl ?_
          refine g_callVi (As := []) C dX11_readsLinks_32 ft_387 z0 ft_481 ft_482 (met_X11_here l hWF z0 hw) ⟨rfl, rfl, Nat.le_of_ble_eq_true rfl, Nat.le_of_ble_eq_true rfl⟩ ⟨Nat.zero_le _, Nat.zero_le _⟩ rfl rfl (Nat.le_of_ble_eq_true rfl) (fun r26 I26 J26 Q26 hp => ?_)
          obtain ⟨hw, eJ, eQ, hWF⟩ := hp
          have eJ : J = J26 := Eq.symm eJ
          subst eJ
          have eQ : Q = Q26 := Eq.symm eQ
          subst eQ
          try dsimp only at hw hWF
          refine g_bipush (v := (45 : Int32)) C dX11_readsLinks_35 (by decide) ?_
          refine g_icmp_eq (tgt := 42) C dX11_readsLinks_37 (by decide) (fun c27 => ?_) (fun c27 => ?_)
          · have hw := hw.1 c27
            refine g_aload_n C dX11_readsLinks_42 rfl 1 rfl ?_
            refine g_dup C dX11_readsLinks_43 rfl ?_
            refine g_getI C dX11_readsLinks_44 ft_479 z0 ?_
            refine g_iconst (v := (1 : Int32)) C dX11_readsLinks_47 (by decide) ?_
            refine g_iadd C dX11_readsLinks_48 ?_
            refine g_putI C dX11_readsLinks_49 ft_480 z0 ?_
            refine g_aload_n C dX11_readsLinks_52 rfl 1 rfl ?_
            refine g_callVi (As := []) C dX11_readsLinks_53 ft_387 z0 ft_483 ft_484 (met_X11_nodeHere l hWF z0 hw) ⟨rfl, rfl, Nat.le_of_ble_eq_true rfl, Nat.le_of_ble_eq_true rfl⟩ ⟨Nat.zero_le _, Nat.zero_le _⟩ rfl rfl (Nat.le_of_ble_eq_true rfl) (fun r28 I28 J28 Q28 hp => ?_)
            obtain ⟨hw, eJ, eQ, hWF⟩ := hp
            have eJ : J = J28 := Eq.symm eJ
            subst eJ
            have eQ : Q = Q28 := Eq.symm eQ
            subst eQ
            try dsimp only at hw hWF
            refine g_istore (lv' := [(4, .int r28), (3, .int r24), (0, .ref (ad h0)), (1, .int x1_1), (2, .int x2_1)]) C dX11_readsLinks_56 (by decide) rfl ?_
            refine g_iload C dX11_readsLinks_58 0 rfl ?_
            refine g_bipush (v := (-4 : Int32)) C dX11_readsLinks_60 (by decide) ?_
            refine g_icmp_eq (tgt := 84) C dX11_readsLinks_62 (by decide) (fun c29 => ?_) (fun c29 => ?_)
            · have hw := hw.1 c29
              refine g_iconst (v := (0 : Int32)) C dX11_readsLinks_84 (by decide) ?_
              exact g_zret C dX11_readsLinks_85 hr rfl ⟨hw, rfl, rfl, hWF⟩
            · have hw := hw.2 c29
              refine g_iload C dX11_readsLinks_65 0 rfl ?_
              refine g_iload_n C dX11_readsLinks_67 rfl 1 rfl ?_
              refine g_icmp_eq (tgt := 84) C dX11_readsLinks_68 (by decide) (fun c30 => ?_) (fun c30 => ?_)
              · have hw := hw.1 c30
                refine g_iconst (v := (0 : Int32)) C dX11_readsLinks_84 (by decide) ?_
                exact g_zret C dX11_readsLinks_85 hr rfl ⟨hw, rfl, rfl, hWF⟩
              · have hw := hw.2 c30
                refine g_iload_n C dX11_readsLinks_71 rfl 3 rfl ?_
                refine g_iload_n C dX11_readsLinks_72 rfl 1 rfl ?_
                refine g_iload C dX11_readsLinks_73 0 rfl ?_
                refine g_callSi (As := [.int r24, .int r28]) C dX11_readsLinks_75 ft_365 ft_366 (met_X11_linkOf l hWF  hw) ⟨rfl, rfl, Nat.le_of_ble_eq_true rfl, Nat.le_of_ble_eq_true rfl⟩ ⟨Nat.zero_le _, Nat.zero_le _⟩ rfl rfl (Nat.le_of_ble_eq_true rfl) (fun r31 I31 J31 Q31 hp => ?_)
                obtain ⟨hw, eI, eJ, eQ, hWF⟩ := hp
                have eI : I28 = I31 := Eq.symm eI
                subst eI
                have eJ : J = J31 := Eq.symm eJ
                subst eJ
                have eQ : Q = Q31 := Eq.symm eQ
                subst eQ
                try dsimp only at hw hWF
                refine g_callSi (As := [.int x1_1, .int r31]) C dX11_readsLinks_78 ft_381 ft_382 (met_X11_has l hWF  hw) ⟨rfl, rfl, Nat.le_of_ble_eq_true rfl, Nat.le_of_ble_eq_true rfl⟩ ⟨Nat.zero_le _, Nat.zero_le _⟩ rfl rfl (Nat.le_of_ble_eq_true rfl) (fun r32 I32 J32 Q32 hp => ?_)
                obtain ⟨hw, eI, eJ, eQ, hWF⟩ := hp
                have eI : I28 = I32 := Eq.symm eI
                subst eI
                have eJ : J = J32 := Eq.symm eJ
                subst eJ
                have eQ : Q = Q32 := Eq.symm eQ
                subst eQ
                try dsimp only at hw hWF
                refine g_if_eq (tgt := 86) C dX11_readsLinks_81 (by decide) (fun c33 => ?_) (fun c33 => ?_)
                · have hw := hw.1 c33
                  refine g_aload_n C dX11_readsLinks_86 rfl 2 rfl ?_
                  refine g_dup C dX11_readsLinks_87 rfl ?_
                  refine g_getI C dX11_readsLinks_88 ft_479 z0 ?_
                  refine g_iconst (v := (1 : Int32)) C dX11_readsLinks_91 (by decide) ?_
                  refine g_iadd C dX11_readsLinks_92 ?_
                  refine g_putI C dX11_readsLinks_93 ft_480 z0 ?_
                  refine g_iload_n C dX11_readsLinks_96 rfl 3 rfl ?_
                  refine g_iconst (v := (1 : Int32)) C dX11_readsLinks_97 (by decide) ?_
                  refine g_iload_n C dX11_readsLinks_98 rfl 1 rfl ?_
                  refine g_iload C dX11_readsLinks_99 0 rfl ?_
                  refine g_callSi (As := [.int r24, .int r28]) C dX11_readsLinks_101 ft_365 ft_366 (met_X11_linkOf l hWF  hw) ⟨rfl, rfl, Nat.le_of_ble_eq_true rfl, Nat.le_of_ble_eq_true rfl⟩ ⟨Nat.zero_le _, Nat.zero_le _⟩ rfl rfl (Nat.le_of_ble_eq_true rfl) (fun r34 I34 J34 Q34 hp => ?_)
                  obtain ⟨hw, eI, eJ, eQ, hWF⟩ := hp
                  have eI : (sti I28 h0 21 ((I28 h0 21) + (1 : Int32))) = I34 := Eq.symm eI
                  subst eI
                  have eJ : J = J34 := Eq.symm eJ
                  subst eJ
                  have eQ : Q = Q34 := Eq.symm eQ
                  subst eQ
                  try dsimp only at hw hWF
                  refine g_ishl C dX11_readsLinks_104 ?_
                  refine g_ior C dX11_readsLinks_105 ?_
                  refine g_istore_n (lv' := [(1, .int (x1_1 ||| ((1 : Int32) <<< (r34 &&& 31)))), (4, .int r28), (3, .int r24), (0, .ref (ad h0)), (2, .int x2_1)]) C dX11_readsLinks_106 rfl (by decide) rfl ?_
                  refine g_aload_n C dX11_readsLinks_107 rfl 3 rfl ?_
                  refine g_callVi (As := []) C dX11_readsLinks_108 ft_387 z0 ft_481 ft_482 (met_X11_here l hWF z0 hw) ⟨rfl, rfl, Nat.le_of_ble_eq_true rfl, Nat.le_of_ble_eq_true rfl⟩ ⟨Nat.zero_le _, Nat.zero_le _⟩ rfl rfl (Nat.le_of_ble_eq_true rfl) (fun r35 I35 J35 Q35 hp => ?_)
                  obtain ⟨hw, eJ, eQ, hWF⟩ := hp
                  have eJ : J = J35 := Eq.symm eJ
                  subst eJ
                  have eQ : Q = Q35 := Eq.symm eQ
                  subst eQ
                  try dsimp only at hw hWF
                  refine g_bipush (v := (44 : Int32)) C dX11_readsLinks_111 (by decide) ?_
                  refine g_icmp_ne (tgt := 120) C dX11_readsLinks_113 (by decide) (fun c36 => ?_) (fun c36 => ?_)
                  · have hw := hw.1 c36
                    refine g_iconst (v := (0 : Int32)) C dX11_readsLinks_120 (by decide) ?_
                    refine g_istore_n (lv' := [(2, .int (0 : Int32)), (1, .int (x1_1 ||| ((1 : Int32) <<< (r34 &&& 31)))), (4, .int r28), (3, .int r24), (0, .ref (ad h0))]) C dX11_readsLinks_121 rfl (by decide) rfl ?_
                    refine g_aload_n C dX11_readsLinks_122 rfl 4 rfl ?_
                    refine g_dup C dX11_readsLinks_123 rfl ?_
                    refine g_getI C dX11_readsLinks_124 ft_479 z0 ?_
                    refine g_iload_n C dX11_readsLinks_127 rfl 0 rfl ?_
                    refine g_if_eq (tgt := 135) C dX11_readsLinks_128 (by decide) (fun _ => ?_) (fun c37 => absurd c37 (by decide))
                    refine g_iconst (v := (0 : Int32)) C dX11_readsLinks_135 (by decide) ?_
                    refine g_iadd C dX11_readsLinks_136 ?_
                    refine g_putI C dX11_readsLinks_137 ft_480 z0 ?_
                    refine g_goto C dX11_readsLinks_140 (tgt := 4) (by decide) ?_
                    refine g_sub [4, 1, 0] rfl ?_
                    exact ih_u18 (sti I35 h0 21 ((I35 h0 21) + (0 : Int32))) (x1_1 ||| ((1 : Int32) <<< (r34 &&& 31))) (0 : Int32) hw hWF
                  · have hw := hw.2 c36
                    refine g_iconst (v := (1 : Int32)) C dX11_readsLinks_116 (by decide) ?_
                    refine g_goto C dX11_readsLinks_117 (tgt := 121) (by decide) ?_
                    refine g_istore_n (lv' := [(2, .int (1 : Int32)), (1, .int (x1_1 ||| ((1 : Int32) <<< (r34 &&& 31)))), (4, .int r28), (3, .int r24), (0, .ref (ad h0))]) C dX11_readsLinks_121 rfl (by decide) rfl ?_
                    refine g_aload_n C dX11_readsLinks_122 rfl 4 rfl ?_
                    refine g_dup C dX11_readsLinks_123 rfl ?_
                    refine g_getI C dX11_readsLinks_124 ft_479 z0 ?_
                    refine g_iload_n C dX11_readsLinks_127 rfl 0 rfl ?_
                    refine g_if_eq (tgt := 135) C dX11_readsLinks_128 (by decide) (fun c38 => absurd c38 (by decide)) (fun _ => ?_)
                    refine g_iconst (v := (1 : Int32)) C dX11_readsLinks_131 (by decide) ?_
                    refine g_goto C dX11_readsLinks_132 (tgt := 136) (by decide) ?_
                    refine g_iadd C dX11_readsLinks_136 ?_
                    refine g_putI C dX11_readsLinks_137 ft_480 z0 ?_
                    refine g_goto C dX11_readsLinks_140 (tgt := 4) (by decide) ?_
                    refine g_sub [4, 1, 0] rfl ?_
                    exact ih_u18 (sti I35 h0 21 ((I35 h0 21) + (1 : Int32))) (x1_1 ||| ((1 : Int32) <<< (r34 &&& 31))) (1 : Int32) hw hWF
                · have hw := hw.2 c33
                  refine g_iconst (v := (0 : Int32)) C dX11_readsLinks_84 (by decide) ?_
                  exact g_zret C dX11_readsLinks_85 hr rfl ⟨hw, rfl, rfl, hWF⟩
          · have hw := hw.2 c27
            refine g_iconst (v := (0 : Int32)) C dX11_readsLinks_40 (by decide) ?_
            exact g_zret C dX11_readsLinks_41 hr rfl ⟨hw, rfl, rfl, hWF⟩
        · have hw := hw.2 c25
          refine g_iconst (v := (0 : Int32)) C dX11_readsLinks_19 (by decide) ?_
          exact g_zret C dX11_readsLinks_20 hr rfl ⟨hw, rfl, rfl, hWF⟩
  obtain ⟨n_u18, hw⟩ := hw
  refine g_sub [2, 1, 0] rfl ?_
  exact L4_u18 n_u18 I (0 : Int32) (1 : Int32) hw hWF
def wp_X11_word_L7 (Qf_1 : KQ) (f0_1 : Nat) (f3_1 : Int32) (post : Int64 → KI → Prop) : Nat → KI → Int64 → Prop
  | 0, _, _ => False
  | n7 + 1, I_1, x1_1 => (((I_1 f0_1 20) ≤ (I_1 f0_1 21) → post x1_1 I_1) ∧ (¬ (I_1 f0_1 20) ≤ (I_1 f0_1 21) → (vp_in (I_1 f0_1 21) 90 ∧ wp_X11_in ((I_1 (rq Qf_1 f0_1 19) (I_1 f0_1 21).toNatClampNeg).toInt64) (97 : Int64) (122 : Int64) (fun r4 => ((r4 = 0 → post x1_1 I_1) ∧ (¬ r4 = 0 → (((6 : Int32) ≤ ((I_1 f0_1 21) - f3_1) → wp_X11_word_L7 Qf_1 f0_1 f3_1 post n7 (sti I_1 f0_1 21 ((I_1 f0_1 21) + (1 : Int32))) (-1 : Int64)) ∧ (¬ (6 : Int32) ≤ ((I_1 f0_1 21) - f3_1) → (vp_in (I_1 f0_1 21) 90 ∧ wp_X11_word_L7 Qf_1 f0_1 f3_1 post n7 (sti I_1 f0_1 21 ((I_1 f0_1 21) + (1 : Int32))) (((((32 : Int64) * x1_1) + ((I_1 (rq Qf_1 f0_1 19) (I_1 f0_1 21).toNatClampNeg).toInt64)) - (97 : Int64)) + (1 : Int64)))))))))))
def wp_X11_word (I : KI) (Q : KQ) (h0 : Nat) (post : Int64 → KI → Prop) : Prop := (∃ q7, wp_X11_word_L7 Q h0 (I h0 21) post q7 I (0 : Int64))
set_option maxHeartbeats 4000000 in
set_option maxRecDepth 100000 in
theorem met_X11_word {Z : Nat → Prop} {A : Nat → Prop} {D : va_G} {D2 : Nat → ClassId} {ad : Nat → Nat} {N : Nat} {T : Nat → Nat × Nat} (l : Launch) {I : KI} {J : KJ} {Q : KQ} {h0 : Nat} {post : Int64 → KI → Prop} (hWF : WF Z N T Q) (z0 : OKr Z N T h0 (11, 0)) (hw : wp_X11_word I Q h0 post) : Met l yX11_word (.code yX11_word cX11_word 4 (some .long) :: BIG) ({ frames := 1, cells := 0, slots := 0, locals := 25 }) (Pr D D2 A ad N T I J Q [.ref (ad h0)]) (va_Ql (fun (r : Int64) (u : KS) => post r u.1 ∧ u.2.1 = J ∧ u.2.2 = Q ∧ WF Z N T u.2.2) (Bw D D2 ad N T) A) 0 0 A := by
  refine Met_GG (lv0 := [(0, .ref (ad h0))]) (by decide +kernel) [.ref (ad h0)] (Nat.le_of_ble_eq_true rfl) rfl ?_
  intro p e s m below meth c C hr
  have C : CX p s m [.ref (ad h0)].toArray meth c cX11_word 4 RX11 A D D2 := C
  unfold wp_X11_word at hw
  refine g_lconst (v := (0 : Int64)) C dX11_word_0 (by decide) ?_
  refine g_lstore_n (lv' := [(1, .long (0 : Int64)), (0, .ref (ad h0))]) C dX11_word_1 rfl (by decide) rfl ?_
  refine g_aload_n C dX11_word_2 rfl 1 rfl ?_
  refine g_getI C dX11_word_3 ft_479 z0 ?_
  refine g_istore_n (lv' := [(3, .int (I h0 21)), (1, .long (0 : Int64)), (0, .ref (ad h0))]) C dX11_word_6 rfl (by decide) rfl ?_
  have L7_u8 : ∀ (n7 : Nat) (I_1 : KI) (x1_1 : Int64), wp_X11_word_L7 Q h0 (I h0 21) post n7 I_1 x1_1 → WF Z N T Q → GG p l e ({ frames := 1, cells := 0, slots := 0, locals := 25 }) s m [.ref (ad h0)].toArray below meth c 4 A D D2 0 0 (MQ below (va_Ql (fun (r : Int64) (u : KS) => post r u.1 ∧ u.2.1 = J ∧ u.2.2 = Q ∧ WF Z N T u.2.2) (Bw D D2 ad N T) A) [.ref (ad h0)].toArray s 0 0 A) ad N T I_1 J Q 7 [(0, .ref (ad h0)), (1, .long x1_1), (3, .int (I h0 21))] [] := by
    intro n7
    induction n7 with
    | zero => intro I_1 x1_1 hw; exact hw.elim
    | succ n7 ih_u8 =>
      intro I_1 x1_1 hw hWF
      unfold wp_X11_word_L7 at hw
      refine g_aload_n C dX11_word_7 rfl 0 rfl ?_
      refine g_getI C dX11_word_8 ft_479 z0 ?_
      refine g_aload_n C dX11_word_11 rfl 0 rfl ?_
      refine g_getI C dX11_word_12 ft_476 z0 ?_
      refine g_icmp_ge (tgt := 93) C dX11_word_15 (by decide) (fun c10 => ?_) (fun c10 => ?_)
      · have hw := hw.1 c10
        refine g_lload_n C dX11_word_93 rfl 1 rfl ?_
        exact g_lret C dX11_word_94 hr ⟨hw, rfl, rfl, hWF⟩
      · have hw := hw.2 c10
        refine g_aload_n C dX11_word_18 rfl 0 rfl ?_
        refine g_getQ C dX11_word_19 ft_477 z0 (hWF.q z0 19 rfl) ?_
        have zz11 := hWF.r z0 19 rfl
        refine g_aload_n C dX11_word_22 rfl 0 rfl ?_
        refine g_getI C dX11_word_23 ft_479 z0 ?_
        refine g_iald C dX11_word_26 zz11 hw.1 ?_
        have hw := hw.2
        refine g_i2l C dX11_word_27 ?_
        refine g_ldc2 C dX11_word_28 ft_487 ?_
        refine g_ldc2 C dX11_word_31 ft_488 ?_
        refine g_callSi (As := [.long ((I_1 (rq Q h0 19) (I_1 h0 21).toNatClampNeg).toInt64), .long (97 : Int64), .long (122 : Int64)]) C dX11_word_34 ft_397 ft_398 (met_X11_in l hWF  hw) ⟨rfl, rfl, Nat.le_of_ble_eq_true rfl, Nat.le_of_ble_eq_true rfl⟩ ⟨Nat.zero_le _, Nat.zero_le _⟩ rfl rfl (Nat.le_of_ble_eq_true rfl) (fun r12 I12 J12 Q12 hp => ?_)
        obtain ⟨hw, eI, eJ, eQ, hWF⟩ := hp
        have eI : I_1 = I12 := Eq.symm eI
        subst eI
        have eJ : J = J12 := Eq.symm eJ
        subst eJ
        have eQ : Q = Q12 := Eq.symm eQ
        subst eQ
        try dsimp only at hw hWF
        refine g_if_eq (tgt := 93) C dX11_word_37 (by decide) (fun c13 => ?_) (fun c13 => ?_)
        · have hw := hw.1 c13
          refine g_lload_n C dX11_word_93 rfl 1 rfl ?_
          exact g_lret C dX11_word_94 hr ⟨hw, rfl, rfl, hWF⟩
        · have hw := hw.2 c13
          refine g_aload_n C dX11_word_40 rfl 0 rfl ?_
          refine g_getI C dX11_word_41 ft_479 z0 ?_
          refine g_iload_n C dX11_word_44 rfl 2 rfl ?_
          refine g_isub C dX11_word_45 ?_
          refine g_bipush (v := (6 : Int32)) C dX11_word_46 (by decide) ?_
          refine g_icmp_ge (tgt := 76) C dX11_word_48 (by decide) (fun c14 => ?_) (fun c14 => ?_)
          · have hw := hw.1 c14
            refine g_ldc2 C dX11_word_76 ft_464 ?_
            refine g_lstore_n (lv' := [(1, .long (-1 : Int64)), (0, .ref (ad h0)), (3, .int (I h0 21))]) C dX11_word_79 rfl (by decide) rfl ?_
            refine g_aload_n C dX11_word_80 rfl 1 rfl ?_
            refine g_dup C dX11_word_81 rfl ?_
            refine g_getI C dX11_word_82 ft_479 z0 ?_
            refine g_iconst (v := (1 : Int32)) C dX11_word_85 (by decide) ?_
            refine g_iadd C dX11_word_86 ?_
            refine g_putI C dX11_word_87 ft_480 z0 ?_
            refine g_goto C dX11_word_90 (tgt := 7) (by decide) ?_
            refine g_sub [1, 0, 2] rfl ?_
            exact ih_u8 (sti I_1 h0 21 ((I_1 h0 21) + (1 : Int32))) (-1 : Int64) hw hWF
          · have hw := hw.2 c14
            refine g_ldc2 C dX11_word_51 ft_474 ?_
            refine g_lload_n C dX11_word_54 rfl 1 rfl ?_
            refine g_lmul C dX11_word_55 ?_
            refine g_aload_n C dX11_word_56 rfl 0 rfl ?_
            refine g_getQ C dX11_word_57 ft_477 z0 (hWF.q z0 19 rfl) ?_
            have zz15 := hWF.r z0 19 rfl
            refine g_aload_n C dX11_word_60 rfl 0 rfl ?_
            refine g_getI C dX11_word_61 ft_479 z0 ?_
            refine g_iald C dX11_word_64 zz15 hw.1 ?_
            have hw := hw.2
            refine g_i2l C dX11_word_65 ?_
            refine g_ladd C dX11_word_66 ?_
            refine g_ldc2 C dX11_word_67 ft_487 ?_
            refine g_lsub C dX11_word_70 ?_
            refine g_lconst (v := (1 : Int64)) C dX11_word_71 (by decide) ?_
            refine g_ladd C dX11_word_72 ?_
            refine g_goto C dX11_word_73 (tgt := 79) (by decide) ?_
            refine g_lstore_n (lv' := [(1, .long (((((32 : Int64) * x1_1) + ((I_1 (rq Q h0 19) (I_1 h0 21).toNatClampNeg).toInt64)) - (97 : Int64)) + (1 : Int64))), (0, .ref (ad h0)), (3, .int (I h0 21))]) C dX11_word_79 rfl (by decide) rfl ?_
            refine g_aload_n C dX11_word_80 rfl 1 rfl ?_
            refine g_dup C dX11_word_81 rfl ?_
            refine g_getI C dX11_word_82 ft_479 z0 ?_
            refine g_iconst (v := (1 : Int32)) C dX11_word_85 (by decide) ?_
            refine g_iadd C dX11_word_86 ?_
            refine g_putI C dX11_word_87 ft_480 z0 ?_
            refine g_goto C dX11_word_90 (tgt := 7) (by decide) ?_
            refine g_sub [1, 0, 2] rfl ?_
            exact ih_u8 (sti I_1 h0 21 ((I_1 h0 21) + (1 : Int32))) (((((32 : Int64) * x1_1) + ((I_1 (rq Q h0 19) (I_1 h0 21).toNatClampNeg).toInt64)) - (97 : Int64)) + (1 : Int64)) hw hWF
  obtain ⟨n_u8, hw⟩ := hw
  refine g_sub [2, 1, 0] rfl ?_
  exact L7_u8 n_u8 I (0 : Int64) hw hWF
def wp_X11_name  (x0 : Int32) (x1 : Int32) (x2 : Int32) (x3 : Int32) (post : Int64 → Prop) : Prop := post (((((((x0.toInt64) * (32 : Int64)) + (x1.toInt64)) * (32 : Int64)) + (x2.toInt64)) * (32 : Int64)) + (x3.toInt64))
set_option maxHeartbeats 4000000 in
set_option maxRecDepth 100000 in
theorem met_X11_name {Z : Nat → Prop} {A : Nat → Prop} {D : va_G} {D2 : Nat → ClassId} {ad : Nat → Nat} {N : Nat} {T : Nat → Nat × Nat} (l : Launch) {I : KI} {J : KJ} {Q : KQ} {x0 : Int32} {x1 : Int32} {x2 : Int32} {x3 : Int32} {post : Int64 → Prop} (hWF : WF Z N T Q)  (hw : wp_X11_name x0 x1 x2 x3 post) : Met l yX11_name (.code yX11_name cX11_name 4 (some .long) :: BIG) ({ frames := 0, cells := 0, slots := 0, locals := 0 }) (Pr D D2 A ad N T I J Q [.int x0, .int x1, .int x2, .int x3]) (va_Ql (fun (r : Int64) (u : KS) => post r ∧ u.1 = I ∧ u.2.1 = J ∧ u.2.2 = Q ∧ WF Z N T u.2.2) (Bw D D2 ad N T) A) 0 0 A := by
  refine Met_GG (lv0 := [(0, .int x0), (1, .int x1), (2, .int x2), (3, .int x3)]) (by decide +kernel) [.int x0, .int x1, .int x2, .int x3] (Nat.le_of_ble_eq_true rfl) rfl ?_
  intro p e s m below meth c C hr
  have C : CX p s m [.int x0, .int x1, .int x2, .int x3].toArray meth c cX11_name 4 RX11 A D D2 := C
  unfold wp_X11_name at hw
  refine g_iload_n C dX11_name_0 rfl 0 rfl ?_
  refine g_i2l C dX11_name_1 ?_
  refine g_ldc2 C dX11_name_2 ft_474 ?_
  refine g_lmul C dX11_name_5 ?_
  refine g_iload_n C dX11_name_6 rfl 1 rfl ?_
  refine g_i2l C dX11_name_7 ?_
  refine g_ladd C dX11_name_8 ?_
  refine g_ldc2 C dX11_name_9 ft_474 ?_
  refine g_lmul C dX11_name_12 ?_
  refine g_iload_n C dX11_name_13 rfl 2 rfl ?_
  refine g_i2l C dX11_name_14 ?_
  refine g_ladd C dX11_name_15 ?_
  refine g_ldc2 C dX11_name_16 ft_474 ?_
  refine g_lmul C dX11_name_19 ?_
  refine g_iload_n C dX11_name_20 rfl 3 rfl ?_
  refine g_i2l C dX11_name_21 ?_
  refine g_ladd C dX11_name_22 ?_
  exact g_lret C dX11_name_23 hr ⟨hw, rfl, rfl, rfl, hWF⟩
def wp_X11_readsNet (I : KI) (Q : KQ) (h0 : Nat) (post : Int32 → KI → Prop) : Prop := ((¬ (I h0 22) = (8 : Int32) → wp_X11_here I Q h0 (fun r2 I2 => wp_X11_word I2 Q h0 (fun r3 I3 => wp_X11_name (16 : Int32) (1 : Int32) (20 : Int32) (8 : Int32) (fun r4 => (((lg_cmp r3 r4) = 0 → wp_X11_name (18 : Int32) (9 : Int32) (14 : Int32) (7 : Int32) (fun r6 => ((fun (k8 : Int32 → Prop) => ((¬ (lg_cmp r3 r6) = 0 → k8 (0 : Int32)) ∧ ((lg_cmp r3 r6) = 0 → k8 (1 : Int32)))) (fun s0_8 => wp_X11_readsRow I3 Q h0 s0_8 (fun r9 I9 => ((r9 = 0 ∨ r9 = 1) ∧ post r9 I9)))))) ∧ (¬ (lg_cmp r3 r4) = 0 → wp_X11_name (18 : Int32) (9 : Int32) (14 : Int32) (7 : Int32) (fun r10 => ((¬ (lg_cmp r3 r10) = 0 → wp_X11_name (19 : Int32) (20 : Int32) (1 : Int32) (18 : Int32) (fun r12 => ((¬ (lg_cmp r3 r12) = 0 → wp_X11_name (12 : Int32) (9 : Int32) (14 : Int32) (11 : Int32) (fun r14 => ((¬ (lg_cmp r3 (((32 : Int64) * r14) + (19 : Int64))) = 0 → wp_X11_name (0 : Int32) (1 : Int32) (12 : Int32) (12 : Int32) (fun r16 => ((¬ (lg_cmp r3 r16) = 0 → post (0 : Int32) (sti I3 h0 21 (I2 h0 21))) ∧ ((lg_cmp r3 r16) = 0 → (vp_in (I3 h0 22) 8 ∧ post (1 : Int32) (sti I3 (rq Q h0 23) (I3 h0 22).toNatClampNeg (((1 : Int32) <<< ((((I3 (rq Q h0 0) (0 : Int32).toNatClampNeg) * ((I3 (rq Q h0 0) (0 : Int32).toNatClampNeg) - (1 : Int32))) / (2 : Int32)) &&& 31)) - (1 : Int32)))))))) ∧ ((lg_cmp r3 (((32 : Int64) * r14) + (19 : Int64))) = 0 → wp_X11_readsLinks I3 Q h0 (fun r21 I21 => ((r21 = 0 ∨ r21 = 1) ∧ post r21 I21)))))) ∧ ((lg_cmp r3 r12) = 0 → wp_X11_readsStar I3 Q h0 (fun r22 I22 => ((r22 = 0 ∨ r22 = 1) ∧ post r22 I22)))))) ∧ ((lg_cmp r3 r10) = 0 → wp_X11_name (18 : Int32) (9 : Int32) (14 : Int32) (7 : Int32) (fun r23 => ((fun (k25 : Int32 → Prop) => ((¬ (lg_cmp r3 r23) = 0 → k25 (0 : Int32)) ∧ ((lg_cmp r3 r23) = 0 → k25 (1 : Int32)))) (fun s0_25 => wp_X11_readsRow I3 Q h0 s0_25 (fun r26 I26 => ((r26 = 0 ∨ r26 = 1) ∧ post r26 I26)))))))))))))) ∧ ((I h0 22) = (8 : Int32) → post (0 : Int32) I))
set_option maxHeartbeats 4000000 in
set_option maxRecDepth 100000 in
theorem met_X11_readsNet {Z : Nat → Prop} {A : Nat → Prop} {D : va_G} {D2 : Nat → ClassId} {ad : Nat → Nat} {N : Nat} {T : Nat → Nat × Nat} (l : Launch) {I : KI} {J : KJ} {Q : KQ} {h0 : Nat} {post : Int32 → KI → Prop} (hWF : WF Z N T Q) (z0 : OKr Z N T h0 (11, 0)) (hw : wp_X11_readsNet I Q h0 post) : Met l yX11_readsNet (.code yX11_readsNet cX11_readsNet 4 (some .boolean) :: BIG) ({ frames := 4, cells := 0, slots := 0, locals := 96 }) (Pr D D2 A ad N T I J Q [.ref (ad h0)]) (va_Qi (fun (r : Int32) (u : KS) => post r u.1 ∧ u.2.1 = J ∧ u.2.2 = Q ∧ WF Z N T u.2.2) (Bw D D2 ad N T) A) 0 0 A := by
  refine Met_GG (lv0 := [(0, .ref (ad h0))]) (by decide +kernel) [.ref (ad h0)] (Nat.le_of_ble_eq_true rfl) rfl ?_
  intro p e s m below meth c C hr
  have C : CX p s m [.ref (ad h0)].toArray meth c cX11_readsNet 4 RX11 A D D2 := C
  unfold wp_X11_readsNet at hw
  refine g_aload_n C dX11_readsNet_0 rfl 0 rfl ?_
  refine g_getI C dX11_readsNet_1 ft_486 z0 ?_
  refine g_bipush (v := (8 : Int32)) C dX11_readsNet_4 (by decide) ?_
  refine g_icmp_ne (tgt := 11) C dX11_readsNet_6 (by decide) (fun c1 => ?_) (fun c1 => ?_)
  · have hw := hw.1 c1
    refine g_aload_n C dX11_readsNet_11 rfl 0 rfl ?_
    refine g_callVi (As := []) C dX11_readsNet_12 ft_387 z0 ft_481 ft_482 (met_X11_here l hWF z0 hw) ⟨rfl, rfl, Nat.le_of_ble_eq_true rfl, Nat.le_of_ble_eq_true rfl⟩ ⟨Nat.zero_le _, Nat.zero_le _⟩ rfl rfl (Nat.le_of_ble_eq_true rfl) (fun r2 I2 J2 Q2 hp => ?_)
    obtain ⟨hw, eJ, eQ, hWF⟩ := hp
    have eJ : J = J2 := Eq.symm eJ
    subst eJ
    have eQ : Q = Q2 := Eq.symm eQ
    subst eQ
    try dsimp only at hw hWF
    refine g_pop C dX11_readsNet_15 rfl ?_
    refine g_aload_n C dX11_readsNet_16 rfl 0 rfl ?_
    refine g_getI C dX11_readsNet_17 ft_479 z0 ?_
    refine g_istore_n (lv' := [(1, .int (I2 h0 21)), (0, .ref (ad h0))]) C dX11_readsNet_20 rfl (by decide) rfl ?_
    refine g_aload_n C dX11_readsNet_21 rfl 1 rfl ?_
    refine g_callVl (As := []) C dX11_readsNet_22 ft_387 z0 ft_498 ft_499 (met_X11_word l hWF z0 hw) ⟨rfl, rfl, Nat.le_of_ble_eq_true rfl, Nat.le_of_ble_eq_true rfl⟩ ⟨Nat.zero_le _, Nat.zero_le _⟩ rfl rfl (Nat.le_of_ble_eq_true rfl) (fun r3 I3 J3 Q3 hp => ?_)
    obtain ⟨hw, eJ, eQ, hWF⟩ := hp
    have eJ : J = J3 := Eq.symm eJ
    subst eJ
    have eQ : Q = Q3 := Eq.symm eQ
    subst eQ
    try dsimp only at hw hWF
    refine g_lstore_n (lv' := [(2, .long r3), (1, .int (I2 h0 21)), (0, .ref (ad h0))]) C dX11_readsNet_25 rfl (by decide) rfl ?_
    refine g_lload_n C dX11_readsNet_26 rfl 0 rfl ?_
    refine g_bipush (v := (16 : Int32)) C dX11_readsNet_27 (by decide) ?_
    refine g_iconst (v := (1 : Int32)) C dX11_readsNet_29 (by decide) ?_
    refine g_bipush (v := (20 : Int32)) C dX11_readsNet_30 (by decide) ?_
    refine g_bipush (v := (8 : Int32)) C dX11_readsNet_32 (by decide) ?_
    refine g_callSl (As := [.int (16 : Int32), .int (1 : Int32), .int (20 : Int32), .int (8 : Int32)]) C dX11_readsNet_34 ft_491 ft_492 (met_X11_name l hWF  hw) ⟨rfl, rfl, Nat.le_of_ble_eq_true rfl, Nat.le_of_ble_eq_true rfl⟩ ⟨Nat.zero_le _, Nat.zero_le _⟩ rfl rfl (Nat.le_of_ble_eq_true rfl) (fun r4 I4 J4 Q4 hp => ?_)
    obtain ⟨hw, eI, eJ, eQ, hWF⟩ := hp
    have eI : I3 = I4 := Eq.symm eI
    subst eI
    have eJ : J = J4 := Eq.symm eJ
    subst eJ
    have eQ : Q = Q4 := Eq.symm eQ
    subst eQ
    try dsimp only at hw hWF
    refine g_lcmp C dX11_readsNet_37 ?_
    refine g_if_eq (tgt := 57) C dX11_readsNet_38 (by decide) (fun c5 => ?_) (fun c5 => ?_)
    · have hw := hw.1 c5
      refine g_aload_n C dX11_readsNet_57 rfl 2 rfl ?_
      refine g_lload_n C dX11_readsNet_58 rfl 0 rfl ?_
      refine g_bipush (v := (18 : Int32)) C dX11_readsNet_59 (by decide) ?_
      refine g_bipush (v := (9 : Int32)) C dX11_readsNet_61 (by decide) ?_
      refine g_bipush (v := (14 : Int32)) C dX11_readsNet_63 (by decide) ?_
      refine g_bipush (v := (7 : Int32)) C dX11_readsNet_65 (by decide) ?_
      refine g_callSl (As := [.int (18 : Int32), .int (9 : Int32), .int (14 : Int32), .int (7 : Int32)]) C dX11_readsNet_67 ft_491 ft_492 (met_X11_name l hWF  hw) ⟨rfl, rfl, Nat.le_of_ble_eq_true rfl, Nat.le_of_ble_eq_true rfl⟩ ⟨Nat.zero_le _, Nat.zero_le _⟩ rfl rfl (Nat.le_of_ble_eq_true rfl) (fun r6 I6 J6 Q6 hp => ?_)
      obtain ⟨hw, eI, eJ, eQ, hWF⟩ := hp
      have eI : I3 = I6 := Eq.symm eI
      subst eI
      have eJ : J = J6 := Eq.symm eJ
      subst eJ
      have eQ : Q = Q6 := Eq.symm eQ
      subst eQ
      try dsimp only at hw hWF
      refine g_lcmp C dX11_readsNet_70 ?_
      have J8 : ∀ (s0_8 : Int32), (wp_X11_readsRow I3 Q h0 s0_8 (fun r9 I9 => ((r9 = 0 ∨ r9 = 1) ∧ post r9 I9))) → WF Z N T Q → GG p l e ({ frames := 4, cells := 0, slots := 0, locals := 96 }) s m [.ref (ad h0)].toArray below meth c 4 A D D2 0 0 (MQ below (va_Qi (fun (r : Int32) (u : KS) => post r u.1 ∧ u.2.1 = J ∧ u.2.2 = Q ∧ WF Z N T u.2.2) (Bw D D2 ad N T) A) [.ref (ad h0)].toArray s 0 0 A) ad N T I3 J Q 79 [] [.int s0_8, .ref (ad h0)] := by
        intro s0_8 hw hWF
        refine g_callVi (As := [.int s0_8]) C dX11_readsNet_79 ft_387 z0 ft_489 ft_490 (met_X11_readsRow l hWF z0 hw) ⟨rfl, rfl, Nat.le_of_ble_eq_true rfl, Nat.le_of_ble_eq_true rfl⟩ ⟨Nat.zero_le _, Nat.zero_le _⟩ rfl rfl (Nat.le_of_ble_eq_true rfl) (fun r9 I9 J9 Q9 hp => ?_)
        obtain ⟨hw, eJ, eQ, hWF⟩ := hp
        have eJ : J = J9 := Eq.symm eJ
        subst eJ
        have eQ : Q = Q9 := Eq.symm eQ
        subst eQ
        try dsimp only at hw hWF
        exact g_zret C dX11_readsNet_82 hr (nar_b hw.1) ⟨hw.2, rfl, rfl, hWF⟩
      refine g_if_ne (tgt := 78) C dX11_readsNet_71 (by decide) (fun c7 => ?_) (fun c7 => ?_)
      · have hw := hw.1 c7
        refine g_iconst (v := (0 : Int32)) C dX11_readsNet_78 (by decide) ?_
        refine g_sub [] rfl ?_
        exact J8 (0 : Int32) hw hWF
      · have hw := hw.2 c7
        refine g_iconst (v := (1 : Int32)) C dX11_readsNet_74 (by decide) ?_
        refine g_goto C dX11_readsNet_75 (tgt := 79) (by decide) ?_
        refine g_sub [] rfl ?_
        exact J8 (1 : Int32) hw hWF
    · have hw := hw.2 c5
      refine g_lload_n C dX11_readsNet_41 rfl 0 rfl ?_
      refine g_bipush (v := (18 : Int32)) C dX11_readsNet_42 (by decide) ?_
      refine g_bipush (v := (9 : Int32)) C dX11_readsNet_44 (by decide) ?_
      refine g_bipush (v := (14 : Int32)) C dX11_readsNet_46 (by decide) ?_
      refine g_bipush (v := (7 : Int32)) C dX11_readsNet_48 (by decide) ?_
      refine g_callSl (As := [.int (18 : Int32), .int (9 : Int32), .int (14 : Int32), .int (7 : Int32)]) C dX11_readsNet_50 ft_491 ft_492 (met_X11_name l hWF  hw) ⟨rfl, rfl, Nat.le_of_ble_eq_true rfl, Nat.le_of_ble_eq_true rfl⟩ ⟨Nat.zero_le _, Nat.zero_le _⟩ rfl rfl (Nat.le_of_ble_eq_true rfl) (fun r10 I10 J10 Q10 hp => ?_)
      obtain ⟨hw, eI, eJ, eQ, hWF⟩ := hp
      have eI : I3 = I10 := Eq.symm eI
      subst eI
      have eJ : J = J10 := Eq.symm eJ
      subst eJ
      have eQ : Q = Q10 := Eq.symm eQ
      subst eQ
      try dsimp only at hw hWF
      refine g_lcmp C dX11_readsNet_53 ?_
      refine g_if_ne (tgt := 83) C dX11_readsNet_54 (by decide) (fun c11 => ?_) (fun c11 => ?_)
      · have hw := hw.1 c11
        refine g_lload_n C dX11_readsNet_83 rfl 0 rfl ?_
        refine g_bipush (v := (19 : Int32)) C dX11_readsNet_84 (by decide) ?_
        refine g_bipush (v := (20 : Int32)) C dX11_readsNet_86 (by decide) ?_
        refine g_iconst (v := (1 : Int32)) C dX11_readsNet_88 (by decide) ?_
        refine g_bipush (v := (18 : Int32)) C dX11_readsNet_89 (by decide) ?_
        refine g_callSl (As := [.int (19 : Int32), .int (20 : Int32), .int (1 : Int32), .int (18 : Int32)]) C dX11_readsNet_91 ft_491 ft_492 (met_X11_name l hWF  hw) ⟨rfl, rfl, Nat.le_of_ble_eq_true rfl, Nat.le_of_ble_eq_true rfl⟩ ⟨Nat.zero_le _, Nat.zero_le _⟩ rfl rfl (Nat.le_of_ble_eq_true rfl) (fun r12 I12 J12 Q12 hp => ?_)
        obtain ⟨hw, eI, eJ, eQ, hWF⟩ := hp
        have eI : I3 = I12 := Eq.symm eI
        subst eI
        have eJ : J = J12 := Eq.symm eJ
        subst eJ
        have eQ : Q = Q12 := Eq.symm eQ
        subst eQ
        try dsimp only at hw hWF
        refine g_lcmp C dX11_readsNet_94 ?_
        refine g_if_ne (tgt := 103) C dX11_readsNet_95 (by decide) (fun c13 => ?_) (fun c13 => ?_)
        · have hw := hw.1 c13
          refine g_lload_n C dX11_readsNet_103 rfl 0 rfl ?_
          refine g_ldc2 C dX11_readsNet_104 ft_474 ?_
          refine g_bipush (v := (12 : Int32)) C dX11_readsNet_107 (by decide) ?_
          refine g_bipush (v := (9 : Int32)) C dX11_readsNet_109 (by decide) ?_
          refine g_bipush (v := (14 : Int32)) C dX11_readsNet_111 (by decide) ?_
          refine g_bipush (v := (11 : Int32)) C dX11_readsNet_113 (by decide) ?_
          refine g_callSl (As := [.int (12 : Int32), .int (9 : Int32), .int (14 : Int32), .int (11 : Int32)]) C dX11_readsNet_115 ft_491 ft_492 (met_X11_name l hWF  hw) ⟨rfl, rfl, Nat.le_of_ble_eq_true rfl, Nat.le_of_ble_eq_true rfl⟩ ⟨Nat.zero_le _, Nat.zero_le _⟩ rfl rfl (Nat.le_of_ble_eq_true rfl) (fun r14 I14 J14 Q14 hp => ?_)
          obtain ⟨hw, eI, eJ, eQ, hWF⟩ := hp
          have eI : I3 = I14 := Eq.symm eI
          subst eI
          have eJ : J = J14 := Eq.symm eJ
          subst eJ
          have eQ : Q = Q14 := Eq.symm eQ
          subst eQ
          try dsimp only at hw hWF
          refine g_lmul C dX11_readsNet_118 ?_
          refine g_ldc2 C dX11_readsNet_119 ft_493 ?_
          refine g_ladd C dX11_readsNet_122 ?_
          refine g_lcmp C dX11_readsNet_123 ?_
          refine g_if_ne (tgt := 132) C dX11_readsNet_124 (by decide) (fun c15 => ?_) (fun c15 => ?_)
          · have hw := hw.1 c15
            refine g_lload_n C dX11_readsNet_132 rfl 0 rfl ?_
            refine g_iconst (v := (0 : Int32)) C dX11_readsNet_133 (by decide) ?_
            refine g_iconst (v := (1 : Int32)) C dX11_readsNet_134 (by decide) ?_
            refine g_bipush (v := (12 : Int32)) C dX11_readsNet_135 (by decide) ?_
            refine g_bipush (v := (12 : Int32)) C dX11_readsNet_137 (by decide) ?_
            refine g_callSl (As := [.int (0 : Int32), .int (1 : Int32), .int (12 : Int32), .int (12 : Int32)]) C dX11_readsNet_139 ft_491 ft_492 (met_X11_name l hWF  hw) ⟨rfl, rfl, Nat.le_of_ble_eq_true rfl, Nat.le_of_ble_eq_true rfl⟩ ⟨Nat.zero_le _, Nat.zero_le _⟩ rfl rfl (Nat.le_of_ble_eq_true rfl) (fun r16 I16 J16 Q16 hp => ?_)
            obtain ⟨hw, eI, eJ, eQ, hWF⟩ := hp
            have eI : I3 = I16 := Eq.symm eI
            subst eI
            have eJ : J = J16 := Eq.symm eJ
            subst eJ
            have eQ : Q = Q16 := Eq.symm eQ
            subst eQ
            try dsimp only at hw hWF
            refine g_lcmp C dX11_readsNet_142 ?_
            refine g_if_ne (tgt := 178) C dX11_readsNet_143 (by decide) (fun c17 => ?_) (fun c17 => ?_)
            · have hw := hw.1 c17
              refine g_aload_n C dX11_readsNet_178 rfl 2 rfl ?_
              refine g_iload_n C dX11_readsNet_179 rfl 1 rfl ?_
              refine g_putI C dX11_readsNet_180 ft_480 z0 ?_
              refine g_iconst (v := (0 : Int32)) C dX11_readsNet_183 (by decide) ?_
              exact g_zret C dX11_readsNet_184 hr rfl ⟨hw, rfl, rfl, hWF⟩
            · have hw := hw.2 c17
              refine g_aload_n C dX11_readsNet_146 rfl 2 rfl ?_
              refine g_getQ C dX11_readsNet_147 ft_485 z0 (hWF.q z0 23 rfl) ?_
              have zz18 := hWF.r z0 23 rfl
              refine g_aload_n C dX11_readsNet_150 rfl 2 rfl ?_
              refine g_getI C dX11_readsNet_151 ft_486 z0 ?_
              refine g_iconst (v := (1 : Int32)) C dX11_readsNet_154 (by decide) ?_
              refine g_aload_n C dX11_readsNet_155 rfl 2 rfl ?_
              refine g_getQ C dX11_readsNet_156 ft_363 z0 (hWF.q z0 0 rfl) ?_
              have zz19 := hWF.r z0 0 rfl
              refine g_iconst (v := (0 : Int32)) C dX11_readsNet_159 (by decide) ?_
              refine g_iald C dX11_readsNet_160 zz19 (vp_lit (by decide +kernel)) ?_
              refine g_aload_n C dX11_readsNet_161 rfl 2 rfl ?_
              refine g_getQ C dX11_readsNet_162 ft_363 z0 (hWF.q z0 0 rfl) ?_
              have zz20 := hWF.r z0 0 rfl
              refine g_iconst (v := (0 : Int32)) C dX11_readsNet_165 (by decide) ?_
              refine g_iald C dX11_readsNet_166 zz20 (vp_lit (by decide +kernel)) ?_
              refine g_iconst (v := (1 : Int32)) C dX11_readsNet_167 (by decide) ?_
              refine g_isub C dX11_readsNet_168 ?_
              refine g_imul C dX11_readsNet_169 ?_
              refine g_iconst (v := (2 : Int32)) C dX11_readsNet_170 (by decide) ?_
              refine g_idiv C dX11_readsNet_171 (by decide) ?_
              refine g_ishl C dX11_readsNet_172 ?_
              refine g_iconst (v := (1 : Int32)) C dX11_readsNet_173 (by decide) ?_
              refine g_isub C dX11_readsNet_174 ?_
              refine g_iast C dX11_readsNet_175 zz18 hw.1 ?_
              have hw := hw.2
              refine g_iconst (v := (1 : Int32)) C dX11_readsNet_176 (by decide) ?_
              exact g_zret C dX11_readsNet_177 hr rfl ⟨hw, rfl, rfl, hWF⟩
          · have hw := hw.2 c15
            refine g_aload_n C dX11_readsNet_127 rfl 2 rfl ?_
            refine g_callVi (As := []) C dX11_readsNet_128 ft_387 z0 ft_494 ft_495 (met_X11_readsLinks l hWF z0 hw) ⟨rfl, rfl, Nat.le_of_ble_eq_true rfl, Nat.le_of_ble_eq_true rfl⟩ ⟨Nat.zero_le _, Nat.zero_le _⟩ rfl rfl (Nat.le_of_ble_eq_true rfl) (fun r21 I21 J21 Q21 hp => ?_)
            obtain ⟨hw, eJ, eQ, hWF⟩ := hp
            have eJ : J = J21 := Eq.symm eJ
            subst eJ
            have eQ : Q = Q21 := Eq.symm eQ
            subst eQ
            try dsimp only at hw hWF
            exact g_zret C dX11_readsNet_131 hr (nar_b hw.1) ⟨hw.2, rfl, rfl, hWF⟩
        · have hw := hw.2 c13
          refine g_aload_n C dX11_readsNet_98 rfl 2 rfl ?_
          refine g_callVi (As := []) C dX11_readsNet_99 ft_387 z0 ft_496 ft_497 (met_X11_readsStar l hWF z0 hw) ⟨rfl, rfl, Nat.le_of_ble_eq_true rfl, Nat.le_of_ble_eq_true rfl⟩ ⟨Nat.zero_le _, Nat.zero_le _⟩ rfl rfl (Nat.le_of_ble_eq_true rfl) (fun r22 I22 J22 Q22 hp => ?_)
          obtain ⟨hw, eJ, eQ, hWF⟩ := hp
          have eJ : J = J22 := Eq.symm eJ
          subst eJ
          have eQ : Q = Q22 := Eq.symm eQ
          subst eQ
          try dsimp only at hw hWF
          exact g_zret C dX11_readsNet_102 hr (nar_b hw.1) ⟨hw.2, rfl, rfl, hWF⟩
      · have hw := hw.2 c11
        refine g_aload_n C dX11_readsNet_57 rfl 2 rfl ?_
        refine g_lload_n C dX11_readsNet_58 rfl 0 rfl ?_
        refine g_bipush (v := (18 : Int32)) C dX11_readsNet_59 (by decide) ?_
        refine g_bipush (v := (9 : Int32)) C dX11_readsNet_61 (by decide) ?_
        refine g_bipush (v := (14 : Int32)) C dX11_readsNet_63 (by decide) ?_
        refine g_bipush (v := (7 : Int32)) C dX11_readsNet_65 (by decide) ?_
        refine g_callSl (As := [.int (18 : Int32), .int (9 : Int32), .int (14 : Int32), .int (7 : Int32)]) C dX11_readsNet_67 ft_491 ft_492 (met_X11_name l hWF  hw) ⟨rfl, rfl, Nat.le_of_ble_eq_true rfl, Nat.le_of_ble_eq_true rfl⟩ ⟨Nat.zero_le _, Nat.zero_le _⟩ rfl rfl (Nat.le_of_ble_eq_true rfl) (fun r23 I23 J23 Q23 hp => ?_)
        obtain ⟨hw, eI, eJ, eQ, hWF⟩ := hp
        have eI : I3 = I23 := Eq.symm eI
        subst eI
        have eJ : J = J23 := Eq.symm eJ
        subst eJ
        have eQ : Q = Q23 := Eq.symm eQ
        subst eQ
        try dsimp only at hw hWF
        refine g_lcmp C dX11_readsNet_70 ?_
        have J25 : ∀ (s0_25 : Int32), (wp_X11_readsRow I3 Q h0 s0_25 (fun r26 I26 => ((r26 = 0 ∨ r26 = 1) ∧ post r26 I26))) → WF Z N T Q → GG p l e ({ frames := 4, cells := 0, slots := 0, locals := 96 }) s m [.ref (ad h0)].toArray below meth c 4 A D D2 0 0 (MQ below (va_Qi (fun (r : Int32) (u : KS) => post r u.1 ∧ u.2.1 = J ∧ u.2.2 = Q ∧ WF Z N T u.2.2) (Bw D D2 ad N T) A) [.ref (ad h0)].toArray s 0 0 A) ad N T I3 J Q 79 [] [.int s0_25, .ref (ad h0)] := by
          intro s0_25 hw hWF
          refine g_callVi (As := [.int s0_25]) C dX11_readsNet_79 ft_387 z0 ft_489 ft_490 (met_X11_readsRow l hWF z0 hw) ⟨rfl, rfl, Nat.le_of_ble_eq_true rfl, Nat.le_of_ble_eq_true rfl⟩ ⟨Nat.zero_le _, Nat.zero_le _⟩ rfl rfl (Nat.le_of_ble_eq_true rfl) (fun r26 I26 J26 Q26 hp => ?_)
          obtain ⟨hw, eJ, eQ, hWF⟩ := hp
          have eJ : J = J26 := Eq.symm eJ
          subst eJ
          have eQ : Q = Q26 := Eq.symm eQ
          subst eQ
          try dsimp only at hw hWF
          exact g_zret C dX11_readsNet_82 hr (nar_b hw.1) ⟨hw.2, rfl, rfl, hWF⟩
        refine g_if_ne (tgt := 78) C dX11_readsNet_71 (by decide) (fun c24 => ?_) (fun c24 => ?_)
        · have hw := hw.1 c24
          refine g_iconst (v := (0 : Int32)) C dX11_readsNet_78 (by decide) ?_
          refine g_sub [] rfl ?_
          exact J25 (0 : Int32) hw hWF
        · have hw := hw.2 c24
          refine g_iconst (v := (1 : Int32)) C dX11_readsNet_74 (by decide) ?_
          refine g_goto C dX11_readsNet_75 (tgt := 79) (by decide) ?_
          refine g_sub [] rfl ?_
          exact J25 (1 : Int32) hw hWF
  · have hw := hw.2 c1
    refine g_iconst (v := (0 : Int32)) C dX11_readsNet_9 (by decide) ?_
    exact g_zret C dX11_readsNet_10 hr rfl ⟨hw, rfl, rfl, hWF⟩
def wp_X11_reads_L12 (Qf_1 : KQ) (f0_1 : Nat) (post : Int32 → KI → Prop) (k30 : KI → Prop) : Nat → KI → Int32 → Prop
  | 0, _, _ => False
  | n12 + 1, I_1, x1_1 => ((x1_1 = 0 → post (1 : Int32) I_1) ∧ (¬ x1_1 = 0 → wp_X11_readsNet I_1 Qf_1 f0_1 (fun r3 I3 => ((r3 = 0 → k30 I3) ∧ (¬ r3 = 0 → wp_X11_isStop I3 Qf_1 f0_1 (fun r5 I5 => ((¬ r5 = 0 → wp_X11_here (sti I5 f0_1 22 ((I5 f0_1 22) + (1 : Int32))) Qf_1 f0_1 (fun r7 I7 => ((¬ r7 = (59 : Int32) → wp_X11_reads_L12 Qf_1 f0_1 post k30 n12 (sti I7 f0_1 21 ((I7 f0_1 21) + (0 : Int32))) (0 : Int32)) ∧ (r7 = (59 : Int32) → wp_X11_reads_L12 Qf_1 f0_1 post k30 n12 (sti I7 f0_1 21 ((I7 f0_1 21) + (1 : Int32))) (1 : Int32))))) ∧ (r5 = 0 → k30 I5))))))))
def wp_X11_reads (I : KI) (Q : KQ) (h0 : Nat) (post : Int32 → KI → Prop) : Prop := (∃ q12, wp_X11_reads_L12 Q h0 post (fun I_12 => wp_X11_here I_12 Q h0 (fun r13 I13 => post (0 : Int32) I13)) q12 (sti (sti I h0 21 (0 : Int32)) h0 22 (0 : Int32)) (1 : Int32))
set_option maxHeartbeats 4000000 in
set_option maxRecDepth 100000 in
theorem met_X11_reads {Z : Nat → Prop} {A : Nat → Prop} {D : va_G} {D2 : Nat → ClassId} {ad : Nat → Nat} {N : Nat} {T : Nat → Nat × Nat} (l : Launch) {I : KI} {J : KJ} {Q : KQ} {h0 : Nat} {post : Int32 → KI → Prop} (hWF : WF Z N T Q) (z0 : OKr Z N T h0 (11, 0)) (hw : wp_X11_reads I Q h0 post) : Met l yX11_reads (.code yX11_reads cX11_reads 2 (some .boolean) :: BIG) ({ frames := 5, cells := 0, slots := 0, locals := 119 }) (Pr D D2 A ad N T I J Q [.ref (ad h0)]) (va_Qi (fun (r : Int32) (u : KS) => post r u.1 ∧ u.2.1 = J ∧ u.2.2 = Q ∧ WF Z N T u.2.2) (Bw D D2 ad N T) A) 0 0 A := by
  refine Met_GG (lv0 := [(0, .ref (ad h0))]) (by decide +kernel) [.ref (ad h0)] (Nat.le_of_ble_eq_true rfl) rfl ?_
  intro p e s m below meth c C hr
  have C : CX p s m [.ref (ad h0)].toArray meth c cX11_reads 2 RX11 A D D2 := C
  unfold wp_X11_reads at hw
  refine g_aload_n C dX11_reads_0 rfl 0 rfl ?_
  refine g_iconst (v := (0 : Int32)) C dX11_reads_1 (by decide) ?_
  refine g_putI C dX11_reads_2 ft_480 z0 ?_
  refine g_aload_n C dX11_reads_5 rfl 0 rfl ?_
  refine g_iconst (v := (0 : Int32)) C dX11_reads_6 (by decide) ?_
  refine g_putI C dX11_reads_7 ft_500 z0 ?_
  refine g_iconst (v := (1 : Int32)) C dX11_reads_10 (by decide) ?_
  refine g_istore_n (lv' := [(1, .int (1 : Int32)), (0, .ref (ad h0))]) C dX11_reads_11 rfl (by decide) rfl ?_
  have K30_u11 : ∀ (I_12 : KI), (wp_X11_here I_12 Q h0 (fun r13 I13 => post (0 : Int32) I13)) → WF Z N T Q → GG p l e ({ frames := 5, cells := 0, slots := 0, locals := 119 }) s m [.ref (ad h0)].toArray below meth c 2 A D D2 0 0 (MQ below (va_Qi (fun (r : Int32) (u : KS) => post r u.1 ∧ u.2.1 = J ∧ u.2.2 = Q ∧ WF Z N T u.2.2) (Bw D D2 ad N T) A) [.ref (ad h0)].toArray s 0 0 A) ad N T I_12 J Q 30 [(0, .ref (ad h0))] [] := by
    intro I_12 hw hWF
    refine g_aload_n C dX11_reads_30 rfl 0 rfl ?_
    refine g_callVi (As := []) C dX11_reads_31 ft_387 z0 ft_481 ft_482 (met_X11_here l hWF z0 hw) ⟨rfl, rfl, Nat.le_of_ble_eq_true rfl, Nat.le_of_ble_eq_true rfl⟩ ⟨Nat.zero_le _, Nat.zero_le _⟩ rfl rfl (Nat.le_of_ble_eq_true rfl) (fun r13 I13 J13 Q13 hp => ?_)
    obtain ⟨hw, eJ, eQ, hWF⟩ := hp
    have eJ : J = J13 := Eq.symm eJ
    subst eJ
    have eQ : Q = Q13 := Eq.symm eQ
    subst eQ
    try dsimp only at hw hWF
    refine g_pop C dX11_reads_34 rfl ?_
    refine g_iconst (v := (0 : Int32)) C dX11_reads_35 (by decide) ?_
    exact g_zret C dX11_reads_36 hr rfl ⟨hw, rfl, rfl, hWF⟩
  have L12_u11 : ∀ (n12 : Nat) (I_1 : KI) (x1_1 : Int32), wp_X11_reads_L12 Q h0 post (fun I_12 => wp_X11_here I_12 Q h0 (fun r13 I13 => post (0 : Int32) I13)) n12 I_1 x1_1 → WF Z N T Q → GG p l e ({ frames := 5, cells := 0, slots := 0, locals := 119 }) s m [.ref (ad h0)].toArray below meth c 2 A D D2 0 0 (MQ below (va_Qi (fun (r : Int32) (u : KS) => post r u.1 ∧ u.2.1 = J ∧ u.2.2 = Q ∧ WF Z N T u.2.2) (Bw D D2 ad N T) A) [.ref (ad h0)].toArray s 0 0 A) ad N T I_1 J Q 12 [(0, .ref (ad h0)), (1, .int x1_1)] [] := by
    intro n12
    induction n12 with
    | zero => intro I_1 x1_1 hw; exact hw.elim
    | succ n12 ih_u11 =>
      intro I_1 x1_1 hw hWF
      unfold wp_X11_reads_L12 at hw
      refine g_iload_n C dX11_reads_12 rfl 1 rfl ?_
      refine g_if_eq (tgt := 83) C dX11_reads_13 (by decide) (fun c15 => ?_) (fun c15 => ?_)
      · have hw := hw.1 c15
        refine g_iconst (v := (1 : Int32)) C dX11_reads_83 (by decide) ?_
        exact g_zret C dX11_reads_84 hr rfl ⟨hw, rfl, rfl, hWF⟩
      · have hw := hw.2 c15
        refine g_aload_n C dX11_reads_16 rfl 0 rfl ?_
        refine g_callVi (As := []) C dX11_reads_17 ft_387 z0 ft_503 ft_504 (met_X11_readsNet l hWF z0 hw) ⟨rfl, rfl, Nat.le_of_ble_eq_true rfl, Nat.le_of_ble_eq_true rfl⟩ ⟨Nat.zero_le _, Nat.zero_le _⟩ rfl rfl (Nat.le_of_ble_eq_true rfl) (fun r16 I16 J16 Q16 hp => ?_)
        obtain ⟨hw, eJ, eQ, hWF⟩ := hp
        have eJ : J = J16 := Eq.symm eJ
        subst eJ
        have eQ : Q = Q16 := Eq.symm eQ
        subst eQ
        try dsimp only at hw hWF
        refine g_if_eq (tgt := 30) C dX11_reads_20 (by decide) (fun c17 => ?_) (fun c17 => ?_)
        · have hw := hw.1 c17
          refine g_sub [0] rfl ?_
          exact K30_u11 I16 hw hWF
        · have hw := hw.2 c17
          refine g_aload_n C dX11_reads_23 rfl 0 rfl ?_
          refine g_callVi (As := []) C dX11_reads_24 ft_387 z0 ft_501 ft_502 (met_X11_isStop l hWF z0 hw) ⟨rfl, rfl, Nat.le_of_ble_eq_true rfl, Nat.le_of_ble_eq_true rfl⟩ ⟨Nat.zero_le _, Nat.zero_le _⟩ rfl rfl (Nat.le_of_ble_eq_true rfl) (fun r18 I18 J18 Q18 hp => ?_)
          obtain ⟨hw, eJ, eQ, hWF⟩ := hp
          have eJ : J = J18 := Eq.symm eJ
          subst eJ
          have eQ : Q = Q18 := Eq.symm eQ
          subst eQ
          try dsimp only at hw hWF
          refine g_if_ne (tgt := 37) C dX11_reads_27 (by decide) (fun c19 => ?_) (fun c19 => ?_)
          · have hw := hw.1 c19
            refine g_aload_n C dX11_reads_37 rfl 0 rfl ?_
            refine g_dup C dX11_reads_38 rfl ?_
            refine g_getI C dX11_reads_39 ft_486 z0 ?_
            refine g_iconst (v := (1 : Int32)) C dX11_reads_42 (by decide) ?_
            refine g_iadd C dX11_reads_43 ?_
            refine g_putI C dX11_reads_44 ft_500 z0 ?_
            refine g_aload_n C dX11_reads_47 rfl 0 rfl ?_
            refine g_callVi (As := []) C dX11_reads_48 ft_387 z0 ft_481 ft_482 (met_X11_here l hWF z0 hw) ⟨rfl, rfl, Nat.le_of_ble_eq_true rfl, Nat.le_of_ble_eq_true rfl⟩ ⟨Nat.zero_le _, Nat.zero_le _⟩ rfl rfl (Nat.le_of_ble_eq_true rfl) (fun r20 I20 J20 Q20 hp => ?_)
            obtain ⟨hw, eJ, eQ, hWF⟩ := hp
            have eJ : J = J20 := Eq.symm eJ
            subst eJ
            have eQ : Q = Q20 := Eq.symm eQ
            subst eQ
            try dsimp only at hw hWF
            refine g_bipush (v := (59 : Int32)) C dX11_reads_51 (by decide) ?_
            refine g_icmp_ne (tgt := 60) C dX11_reads_53 (by decide) (fun c21 => ?_) (fun c21 => ?_)
            · have hw := hw.1 c21
              refine g_iconst (v := (0 : Int32)) C dX11_reads_60 (by decide) ?_
              refine g_istore_n (lv' := [(1, .int (0 : Int32)), (0, .ref (ad h0))]) C dX11_reads_61 rfl (by decide) rfl ?_
              refine g_aload_n C dX11_reads_62 rfl 1 rfl ?_
              refine g_dup C dX11_reads_63 rfl ?_
              refine g_getI C dX11_reads_64 ft_479 z0 ?_
              refine g_iload_n C dX11_reads_67 rfl 0 rfl ?_
              refine g_if_eq (tgt := 75) C dX11_reads_68 (by decide) (fun _ => ?_) (fun c22 => absurd c22 (by decide))
              refine g_iconst (v := (0 : Int32)) C dX11_reads_75 (by decide) ?_
              refine g_iadd C dX11_reads_76 ?_
              refine g_putI C dX11_reads_77 ft_480 z0 ?_
              refine g_goto C dX11_reads_80 (tgt := 12) (by decide) ?_
              refine g_sub [1, 0] rfl ?_
              exact ih_u11 (sti I20 h0 21 ((I20 h0 21) + (0 : Int32))) (0 : Int32) hw hWF
            · have hw := hw.2 c21
              refine g_iconst (v := (1 : Int32)) C dX11_reads_56 (by decide) ?_
              refine g_goto C dX11_reads_57 (tgt := 61) (by decide) ?_
              refine g_istore_n (lv' := [(1, .int (1 : Int32)), (0, .ref (ad h0))]) C dX11_reads_61 rfl (by decide) rfl ?_
              refine g_aload_n C dX11_reads_62 rfl 1 rfl ?_
              refine g_dup C dX11_reads_63 rfl ?_
              refine g_getI C dX11_reads_64 ft_479 z0 ?_
              refine g_iload_n C dX11_reads_67 rfl 0 rfl ?_
              refine g_if_eq (tgt := 75) C dX11_reads_68 (by decide) (fun c23 => absurd c23 (by decide)) (fun _ => ?_)
              refine g_iconst (v := (1 : Int32)) C dX11_reads_71 (by decide) ?_
              refine g_goto C dX11_reads_72 (tgt := 76) (by decide) ?_
              refine g_iadd C dX11_reads_76 ?_
              refine g_putI C dX11_reads_77 ft_480 z0 ?_
              refine g_goto C dX11_reads_80 (tgt := 12) (by decide) ?_
              refine g_sub [1, 0] rfl ?_
              exact ih_u11 (sti I20 h0 21 ((I20 h0 21) + (1 : Int32))) (1 : Int32) hw hWF
          · have hw := hw.2 c19
            refine g_sub [0] rfl ?_
            exact K30_u11 I18 hw hWF
  obtain ⟨n_u11, hw⟩ := hw
  refine g_sub [1, 0] rfl ?_
  exact L12_u11 n_u11 (sti (sti I h0 21 (0 : Int32)) h0 22 (0 : Int32)) (1 : Int32) hw hWF
def wp_X11_read_L59 (Qf_6 : KQ) (f0_6 : Nat) (post : Int32 → KI → Prop) : Nat → KI → Int32 → Prop
  | 0, _, _ => False
  | n59 + 1, I_6, x3_6 => (((8 : Int32) ≤ x3_6 → post (I_6 f0_6 22) I_6) ∧ (¬ (8 : Int32) ≤ x3_6 → (((I_6 f0_6 22) ≤ x3_6 → (vp_in ((7 : Int32) + x3_6) 69 ∧ wp_X11_read_L59 Qf_6 f0_6 post n59 (sti I_6 (rq Qf_6 f0_6 0) ((7 : Int32) + x3_6).toNatClampNeg (0 : Int32)) (x3_6 + (1 : Int32)))) ∧ (¬ (I_6 f0_6 22) ≤ x3_6 → (vp_in x3_6 8 ∧ (vp_in ((7 : Int32) + x3_6) 69 ∧ wp_X11_read_L59 Qf_6 f0_6 post n59 (sti I_6 (rq Qf_6 f0_6 0) ((7 : Int32) + x3_6).toNatClampNeg (I_6 (rq Qf_6 f0_6 23) x3_6.toNatClampNeg)) (x3_6 + (1 : Int32))))))))
def wp_X11_read (I : KI) (Q : KQ) (h0 : Nat) (post : Int32 → KI → Prop) : Prop := wp_X11_reads I Q h0 (fun r1 I1 => (((I1 h0 20) ≤ (I1 h0 21) → ((¬ r1 = 0 → wp_X11_remembers (sti I1 h0 20 (0 : Int32)) Q h0 (fun I4 => (∃ q59, wp_X11_read_L59 Q h0 post q59 (sti I4 (rq Q h0 0) (6 : Int32).toNatClampNeg (I4 h0 22)) (0 : Int32)))) ∧ (r1 = 0 → post ((-20 : Int32) - (I1 h0 20)) (sti I1 h0 20 (0 : Int32))))) ∧ (¬ (I1 h0 20) ≤ (I1 h0 21) → ((¬ r1 = 0 → wp_X11_remembers (sti I1 h0 20 (0 : Int32)) Q h0 (fun I18 => (∃ q59, wp_X11_read_L59 Q h0 post q59 (sti I18 (rq Q h0 0) (6 : Int32).toNatClampNeg (I18 h0 22)) (0 : Int32)))) ∧ (r1 = 0 → post ((-20 : Int32) - (I1 h0 21)) (sti I1 h0 20 (0 : Int32)))))))
set_option maxHeartbeats 4000000 in
set_option maxRecDepth 100000 in
theorem met_X11_read {Z : Nat → Prop} {A : Nat → Prop} {D : va_G} {D2 : Nat → ClassId} {ad : Nat → Nat} {N : Nat} {T : Nat → Nat × Nat} (l : Launch) {I : KI} {J : KJ} {Q : KQ} {h0 : Nat} {post : Int32 → KI → Prop} (hWF : WF Z N T Q) (z0 : OKr Z N T h0 (11, 0)) (hw : wp_X11_read I Q h0 post) : Met l yX11_read (.code yX11_read cX11_read 4 (some .int) :: BIG) ({ frames := 6, cells := 0, slots := 0, locals := 140 }) (Pr D D2 A ad N T I J Q [.ref (ad h0)]) (va_Qi (fun (r : Int32) (u : KS) => post r u.1 ∧ u.2.1 = J ∧ u.2.2 = Q ∧ WF Z N T u.2.2) (Bw D D2 ad N T) A) 0 0 A := by
  refine Met_GG (lv0 := [(0, .ref (ad h0))]) (by decide +kernel) [.ref (ad h0)] (Nat.le_of_ble_eq_true rfl) rfl ?_
  intro p e s m below meth c C hr
  have C : CX p s m [.ref (ad h0)].toArray meth c cX11_read 4 RX11 A D D2 := C
  unfold wp_X11_read at hw
  refine g_aload_n C dX11_read_0 rfl 0 rfl ?_
  refine g_callVi (As := []) C dX11_read_1 ft_387 z0 ft_505 ft_506 (met_X11_reads l hWF z0 hw) ⟨rfl, rfl, Nat.le_of_ble_eq_true rfl, Nat.le_of_ble_eq_true rfl⟩ ⟨Nat.zero_le _, Nat.zero_le _⟩ rfl rfl (Nat.le_of_ble_eq_true rfl) (fun r1 I1 J1 Q1 hp => ?_)
  obtain ⟨hw, eJ, eQ, hWF⟩ := hp
  have eJ : J = J1 := Eq.symm eJ
  subst eJ
  have eQ : Q = Q1 := Eq.symm eQ
  subst eQ
  try dsimp only at hw hWF
  refine g_istore_n (lv' := [(1, .int r1), (0, .ref (ad h0))]) C dX11_read_4 rfl (by decide) rfl ?_
  refine g_bipush (v := (-20 : Int32)) C dX11_read_5 (by decide) ?_
  refine g_aload_n C dX11_read_7 rfl 1 rfl ?_
  refine g_getI C dX11_read_8 ft_479 z0 ?_
  refine g_aload_n C dX11_read_11 rfl 1 rfl ?_
  refine g_getI C dX11_read_12 ft_476 z0 ?_
  refine g_icmp_ge (tgt := 25) C dX11_read_15 (by decide) (fun c2 => ?_) (fun c2 => ?_)
  · have hw := hw.1 c2
    refine g_aload_n C dX11_read_25 rfl 1 rfl ?_
    refine g_getI C dX11_read_26 ft_476 z0 ?_
    refine g_isub C dX11_read_29 ?_
    refine g_istore_n (lv' := [(2, .int ((-20 : Int32) - (I1 h0 20))), (1, .int r1), (0, .ref (ad h0))]) C dX11_read_30 rfl (by decide) rfl ?_
    refine g_aload_n C dX11_read_31 rfl 2 rfl ?_
    refine g_iconst (v := (0 : Int32)) C dX11_read_32 (by decide) ?_
    refine g_putI C dX11_read_33 ft_478 z0 ?_
    refine g_iload_n C dX11_read_36 rfl 1 rfl ?_
    refine g_if_ne (tgt := 42) C dX11_read_37 (by decide) (fun c3 => ?_) (fun c3 => ?_)
    · have hw := hw.1 c3
      refine g_aload_n C dX11_read_42 rfl 2 rfl ?_
      refine g_callVv (As := []) C dX11_read_43 ft_387 z0 ft_430 ft_431 (met_X11_remembers l hWF z0 hw) ⟨rfl, rfl, Nat.le_of_ble_eq_true rfl, Nat.le_of_ble_eq_true rfl⟩ ⟨Nat.zero_le _, Nat.zero_le _⟩ rfl rfl (Nat.le_of_ble_eq_true rfl) (fun I4 J4 Q4 hp => ?_)
      obtain ⟨hw, eJ, eQ, hWF⟩ := hp
      have eJ : J = J4 := Eq.symm eJ
      subst eJ
      have eQ : Q = Q4 := Eq.symm eQ
      subst eQ
      try dsimp only at hw hWF
      refine g_aload_n C dX11_read_46 rfl 2 rfl ?_
      refine g_getQ C dX11_read_47 ft_363 z0 (hWF.q z0 0 rfl) ?_
      have zz5 := hWF.r z0 0 rfl
      refine g_bipush (v := (6 : Int32)) C dX11_read_50 (by decide) ?_
      refine g_aload_n C dX11_read_52 rfl 2 rfl ?_
      refine g_getI C dX11_read_53 ft_486 z0 ?_
      refine g_iast C dX11_read_56 zz5 (vp_lit (by decide +kernel)) ?_
      refine g_iconst (v := (0 : Int32)) C dX11_read_57 (by decide) ?_
      refine g_istore_n (lv' := [(3, .int (0 : Int32)), (2, .int ((-20 : Int32) - (I1 h0 20))), (1, .int r1), (0, .ref (ad h0))]) C dX11_read_58 rfl (by decide) rfl ?_
      have L59_u11 : ∀ (n59 : Nat) (I_6 : KI) (x3_6 : Int32), wp_X11_read_L59 Q h0 post n59 I_6 x3_6 → WF Z N T Q → GG p l e ({ frames := 6, cells := 0, slots := 0, locals := 140 }) s m [.ref (ad h0)].toArray below meth c 4 A D D2 0 0 (MQ below (va_Qi (fun (r : Int32) (u : KS) => post r u.1 ∧ u.2.1 = J ∧ u.2.2 = Q ∧ WF Z N T u.2.2) (Bw D D2 ad N T) A) [.ref (ad h0)].toArray s 0 0 A) ad N T I_6 J Q 59 [(0, .ref (ad h0)), (3, .int x3_6)] [] := by
        intro n59
        induction n59 with
        | zero => intro I_6 x3_6 hw; exact hw.elim
        | succ n59 ih_u11 =>
          intro I_6 x3_6 hw hWF
          unfold wp_X11_read_L59 at hw
          refine g_iload_n C dX11_read_59 rfl 1 rfl ?_
          refine g_bipush (v := (8 : Int32)) C dX11_read_60 (by decide) ?_
          refine g_icmp_ge (tgt := 98) C dX11_read_62 (by decide) (fun c13 => ?_) (fun c13 => ?_)
          · have hw := hw.1 c13
            refine g_aload_n C dX11_read_98 rfl 0 rfl ?_
            refine g_getI C dX11_read_99 ft_486 z0 ?_
            exact g_iret C dX11_read_102 hr ⟨hw, rfl, rfl, hWF⟩
          · have hw := hw.2 c13
            refine g_aload_n C dX11_read_65 rfl 0 rfl ?_
            refine g_getQ C dX11_read_66 ft_363 z0 (hWF.q z0 0 rfl) ?_
            have zz14 := hWF.r z0 0 rfl
            refine g_bipush (v := (7 : Int32)) C dX11_read_69 (by decide) ?_
            refine g_iload_n C dX11_read_71 rfl 1 rfl ?_
            refine g_iadd C dX11_read_72 ?_
            refine g_iload_n C dX11_read_73 rfl 1 rfl ?_
            refine g_aload_n C dX11_read_74 rfl 0 rfl ?_
            refine g_getI C dX11_read_75 ft_486 z0 ?_
            refine g_icmp_ge (tgt := 90) C dX11_read_78 (by decide) (fun c15 => ?_) (fun c15 => ?_)
            · have hw := hw.1 c15
              refine g_iconst (v := (0 : Int32)) C dX11_read_90 (by decide) ?_
              refine g_iast C dX11_read_91 zz14 hw.1 ?_
              have hw := hw.2
              refine g_iinc (v := (x3_6 + (1 : Int32))) (lv' := [(3, .int (x3_6 + (1 : Int32))), (0, .ref (ad h0))]) C dX11_read_92 (q := 1) rfl rfl (by decide) rfl ?_
              refine g_goto C dX11_read_95 (tgt := 59) (by decide) ?_
              refine g_sub [1, 0] rfl ?_
              exact ih_u11 (sti I_6 (rq Q h0 0) ((7 : Int32) + x3_6).toNatClampNeg (0 : Int32)) (x3_6 + (1 : Int32)) hw hWF
            · have hw := hw.2 c15
              refine g_aload_n C dX11_read_81 rfl 0 rfl ?_
              refine g_getQ C dX11_read_82 ft_485 z0 (hWF.q z0 23 rfl) ?_
              have zz16 := hWF.r z0 23 rfl
              refine g_iload_n C dX11_read_85 rfl 1 rfl ?_
              refine g_iald C dX11_read_86 zz16 hw.1 ?_
              have hw := hw.2
              refine g_goto C dX11_read_87 (tgt := 91) (by decide) ?_
              refine g_iast C dX11_read_91 zz14 hw.1 ?_
              have hw := hw.2
              refine g_iinc (v := (x3_6 + (1 : Int32))) (lv' := [(3, .int (x3_6 + (1 : Int32))), (0, .ref (ad h0))]) C dX11_read_92 (q := 1) rfl rfl (by decide) rfl ?_
              refine g_goto C dX11_read_95 (tgt := 59) (by decide) ?_
              refine g_sub [1, 0] rfl ?_
              exact ih_u11 (sti I_6 (rq Q h0 0) ((7 : Int32) + x3_6).toNatClampNeg (I_6 (rq Q h0 23) x3_6.toNatClampNeg)) (x3_6 + (1 : Int32)) hw hWF
      obtain ⟨n_u11, hw⟩ := hw
      refine g_sub [3, 0] rfl ?_
      exact L59_u11 n_u11 (sti I4 (rq Q h0 0) (6 : Int32).toNatClampNeg (I4 h0 22)) (0 : Int32) hw hWF
    · have hw := hw.2 c3
      refine g_iload_n C dX11_read_40 rfl 0 rfl ?_
      exact g_iret C dX11_read_41 hr ⟨hw, rfl, rfl, hWF⟩
  · have hw := hw.2 c2
    refine g_aload_n C dX11_read_18 rfl 1 rfl ?_
    refine g_getI C dX11_read_19 ft_479 z0 ?_
    refine g_goto C dX11_read_22 (tgt := 29) (by decide) ?_
    refine g_isub C dX11_read_29 ?_
    refine g_istore_n (lv' := [(2, .int ((-20 : Int32) - (I1 h0 21))), (1, .int r1), (0, .ref (ad h0))]) C dX11_read_30 rfl (by decide) rfl ?_
    refine g_aload_n C dX11_read_31 rfl 2 rfl ?_
    refine g_iconst (v := (0 : Int32)) C dX11_read_32 (by decide) ?_
    refine g_putI C dX11_read_33 ft_478 z0 ?_
    refine g_iload_n C dX11_read_36 rfl 1 rfl ?_
    refine g_if_ne (tgt := 42) C dX11_read_37 (by decide) (fun c17 => ?_) (fun c17 => ?_)
    · have hw := hw.1 c17
      refine g_aload_n C dX11_read_42 rfl 2 rfl ?_
      refine g_callVv (As := []) C dX11_read_43 ft_387 z0 ft_430 ft_431 (met_X11_remembers l hWF z0 hw) ⟨rfl, rfl, Nat.le_of_ble_eq_true rfl, Nat.le_of_ble_eq_true rfl⟩ ⟨Nat.zero_le _, Nat.zero_le _⟩ rfl rfl (Nat.le_of_ble_eq_true rfl) (fun I18 J18 Q18 hp => ?_)
      obtain ⟨hw, eJ, eQ, hWF⟩ := hp
      have eJ : J = J18 := Eq.symm eJ
      subst eJ
      have eQ : Q = Q18 := Eq.symm eQ
      subst eQ
      try dsimp only at hw hWF
      refine g_aload_n C dX11_read_46 rfl 2 rfl ?_
      refine g_getQ C dX11_read_47 ft_363 z0 (hWF.q z0 0 rfl) ?_
      have zz19 := hWF.r z0 0 rfl
      refine g_bipush (v := (6 : Int32)) C dX11_read_50 (by decide) ?_
      refine g_aload_n C dX11_read_52 rfl 2 rfl ?_
      refine g_getI C dX11_read_53 ft_486 z0 ?_
      refine g_iast C dX11_read_56 zz19 (vp_lit (by decide +kernel)) ?_
      refine g_iconst (v := (0 : Int32)) C dX11_read_57 (by decide) ?_
      refine g_istore_n (lv' := [(3, .int (0 : Int32)), (2, .int ((-20 : Int32) - (I1 h0 21))), (1, .int r1), (0, .ref (ad h0))]) C dX11_read_58 rfl (by decide) rfl ?_
      have L59_u21 : ∀ (n59 : Nat) (I_6 : KI) (x3_6 : Int32), wp_X11_read_L59 Q h0 post n59 I_6 x3_6 → WF Z N T Q → GG p l e ({ frames := 6, cells := 0, slots := 0, locals := 140 }) s m [.ref (ad h0)].toArray below meth c 4 A D D2 0 0 (MQ below (va_Qi (fun (r : Int32) (u : KS) => post r u.1 ∧ u.2.1 = J ∧ u.2.2 = Q ∧ WF Z N T u.2.2) (Bw D D2 ad N T) A) [.ref (ad h0)].toArray s 0 0 A) ad N T I_6 J Q 59 [(0, .ref (ad h0)), (3, .int x3_6)] [] := by
        intro n59
        induction n59 with
        | zero => intro I_6 x3_6 hw; exact hw.elim
        | succ n59 ih_u21 =>
          intro I_6 x3_6 hw hWF
          unfold wp_X11_read_L59 at hw
          refine g_iload_n C dX11_read_59 rfl 1 rfl ?_
          refine g_bipush (v := (8 : Int32)) C dX11_read_60 (by decide) ?_
          refine g_icmp_ge (tgt := 98) C dX11_read_62 (by decide) (fun c23 => ?_) (fun c23 => ?_)
          · have hw := hw.1 c23
            refine g_aload_n C dX11_read_98 rfl 0 rfl ?_
            refine g_getI C dX11_read_99 ft_486 z0 ?_
            exact g_iret C dX11_read_102 hr ⟨hw, rfl, rfl, hWF⟩
          · have hw := hw.2 c23
            refine g_aload_n C dX11_read_65 rfl 0 rfl ?_
            refine g_getQ C dX11_read_66 ft_363 z0 (hWF.q z0 0 rfl) ?_
            have zz24 := hWF.r z0 0 rfl
            refine g_bipush (v := (7 : Int32)) C dX11_read_69 (by decide) ?_
            refine g_iload_n C dX11_read_71 rfl 1 rfl ?_
            refine g_iadd C dX11_read_72 ?_
            refine g_iload_n C dX11_read_73 rfl 1 rfl ?_
            refine g_aload_n C dX11_read_74 rfl 0 rfl ?_
            refine g_getI C dX11_read_75 ft_486 z0 ?_
            refine g_icmp_ge (tgt := 90) C dX11_read_78 (by decide) (fun c25 => ?_) (fun c25 => ?_)
            · have hw := hw.1 c25
              refine g_iconst (v := (0 : Int32)) C dX11_read_90 (by decide) ?_
              refine g_iast C dX11_read_91 zz24 hw.1 ?_
              have hw := hw.2
              refine g_iinc (v := (x3_6 + (1 : Int32))) (lv' := [(3, .int (x3_6 + (1 : Int32))), (0, .ref (ad h0))]) C dX11_read_92 (q := 1) rfl rfl (by decide) rfl ?_
              refine g_goto C dX11_read_95 (tgt := 59) (by decide) ?_
              refine g_sub [1, 0] rfl ?_
              exact ih_u21 (sti I_6 (rq Q h0 0) ((7 : Int32) + x3_6).toNatClampNeg (0 : Int32)) (x3_6 + (1 : Int32)) hw hWF
            · have hw := hw.2 c25
              refine g_aload_n C dX11_read_81 rfl 0 rfl ?_
              refine g_getQ C dX11_read_82 ft_485 z0 (hWF.q z0 23 rfl) ?_
              have zz26 := hWF.r z0 23 rfl
              refine g_iload_n C dX11_read_85 rfl 1 rfl ?_
              refine g_iald C dX11_read_86 zz26 hw.1 ?_
              have hw := hw.2
              refine g_goto C dX11_read_87 (tgt := 91) (by decide) ?_
              refine g_iast C dX11_read_91 zz24 hw.1 ?_
              have hw := hw.2
              refine g_iinc (v := (x3_6 + (1 : Int32))) (lv' := [(3, .int (x3_6 + (1 : Int32))), (0, .ref (ad h0))]) C dX11_read_92 (q := 1) rfl rfl (by decide) rfl ?_
              refine g_goto C dX11_read_95 (tgt := 59) (by decide) ?_
              refine g_sub [1, 0] rfl ?_
              exact ih_u21 (sti I_6 (rq Q h0 0) ((7 : Int32) + x3_6).toNatClampNeg (I_6 (rq Q h0 23) x3_6.toNatClampNeg)) (x3_6 + (1 : Int32)) hw hWF
      obtain ⟨n_u21, hw⟩ := hw
      refine g_sub [3, 0] rfl ?_
      exact L59_u21 n_u21 (sti I18 (rq Q h0 0) (6 : Int32).toNatClampNeg (I18 h0 22)) (0 : Int32) hw hWF
    · have hw := hw.2 c17
      refine g_iload_n C dX11_read_40 rfl 0 rfl ?_
      exact g_iret C dX11_read_41 hr ⟨hw, rfl, rfl, hWF⟩
