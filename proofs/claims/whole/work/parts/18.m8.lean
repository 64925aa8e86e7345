def wp_X11_drawnOf_L31 (If_3 : KI) (Qf_3 : KQ) (f0_3 : Nat) (f1_3 : Int32) (f2_3 : Int32) (f4_3 : Int32) (post : Int32 → KI → Prop) : Nat → Int32 → Int32 → Prop
  | 0, _, _ => False
  | n31 + 1, x3_3, x5_3 => ((f4_3 ≤ x5_3 → post x3_3 If_3) ∧ (¬ f4_3 ≤ x5_3 → wp_X11_has f2_3 x5_3 (fun r5 => ((r5 = 0 → wp_X11_drawnOf_L31 If_3 Qf_3 f0_3 f1_3 f2_3 f4_3 post n31 (x3_3 ^^^ (0 : Int32)) (x5_3 + (1 : Int32))) ∧ (¬ r5 = 0 → wp_X11_sumOf If_3 Qf_3 f0_3 f1_3 x5_3 (fun r7 => wp_X11_drawnOf_L31 If_3 Qf_3 f0_3 f1_3 f2_3 f4_3 post n31 (x3_3 ^^^ r7) (x5_3 + (1 : Int32))))))))
def wp_X11_drawnOf (I : KI) (Q : KQ) (h0 : Nat) (x1 : Int32) (post : Int32 → KI → Prop) : Prop := wp_X11_goesOn (I h0 12) (fun r1 => wp_X11_rank (sti I h0 12 r1) Q h0 x1 (fun r2 => (∃ q31, wp_X11_drawnOf_L31 (sti I h0 12 r1) Q h0 x1 (((sti I h0 12 r1) h0 12) / (65536 : Int32)) r2 post q31 (0 : Int32) (0 : Int32))))
set_option maxHeartbeats 4000000 in
set_option maxRecDepth 100000 in
theorem met_X11_drawnOf {Z : Nat → Prop} {A : Nat → Prop} {D : va_G} {D2 : Nat → ClassId} {ad : Nat → Nat} {N : Nat} {T : Nat → Nat × Nat} (l : Launch) {I : KI} {J : KJ} {Q : KQ} {h0 : Nat} {x1 : Int32} {post : Int32 → KI → Prop} (hWF : WF Z N T Q) (z0 : OKr Z N T h0 (11, 0)) (hw : wp_X11_drawnOf I Q h0 x1 post) : Met l yX11_drawnOf (.code yX11_drawnOf cX11_drawnOf 6 (some .int) :: BIG) ({ frames := 4, cells := 0, slots := 0, locals := 92 }) (Pr D D2 A ad N T I J Q [.ref (ad h0), .int x1]) (va_Qi (fun (r : Int32) (u : KS) => post r u.1 ∧ u.2.1 = J ∧ u.2.2 = Q ∧ WF Z N T u.2.2) (Bw D D2 ad N T) A) 0 0 A := by
  refine Met_GG (lv0 := [(0, .ref (ad h0)), (1, .int x1)]) (by decide +kernel) [.ref (ad h0), .int x1] (Nat.le_of_ble_eq_true rfl) rfl ?_
  intro p e s m below meth c C hr
  have C : CX p s m [.ref (ad h0), .int x1].toArray meth c cX11_drawnOf 6 RX11 A D D2 := C
  unfold wp_X11_drawnOf at hw
  refine g_aload_n C dX11_drawnOf_0 rfl 0 rfl ?_
  refine g_aload_n C dX11_drawnOf_1 rfl 0 rfl ?_
  refine g_getI C dX11_drawnOf_2 ft_406 z0 ?_
  refine g_callSi (As := [.int (I h0 12)]) C dX11_drawnOf_5 ft_411 ft_412 (met_X11_goesOn l hWF  hw) ⟨rfl, rfl, Nat.le_of_ble_eq_true rfl, Nat.le_of_ble_eq_true rfl⟩ ⟨Nat.zero_le _, Nat.zero_le _⟩ rfl rfl (Nat.le_of_ble_eq_true rfl) (fun r1 I1 J1 Q1 hp => ?_)
  obtain ⟨hw, eI, eJ, eQ, hWF⟩ := hp
  have eI : I = I1 := Eq.symm eI
  subst eI
  have eJ : J = J1 := Eq.symm eJ
  subst eJ
  have eQ : Q = Q1 := Eq.symm eQ
  subst eQ
  try dsimp only at hw hWF
  refine g_putI C dX11_drawnOf_8 ft_407 z0 ?_
  refine g_aload_n C dX11_drawnOf_11 rfl 0 rfl ?_
  refine g_getI C dX11_drawnOf_12 ft_406 z0 ?_
  refine g_ldc C dX11_drawnOf_15 ft_408 ?_
  refine g_idiv C dX11_drawnOf_17 (by decide) ?_
  refine g_istore_n (lv' := [(2, .int (((sti I h0 12 r1) h0 12) / (65536 : Int32))), (0, .ref (ad h0)), (1, .int x1)]) C dX11_drawnOf_18 rfl (by decide) rfl ?_
  refine g_iconst (v := (0 : Int32)) C dX11_drawnOf_19 (by decide) ?_
  refine g_istore_n (lv' := [(3, .int (0 : Int32)), (2, .int (((sti I h0 12 r1) h0 12) / (65536 : Int32))), (0, .ref (ad h0)), (1, .int x1)]) C dX11_drawnOf_20 rfl (by decide) rfl ?_
  refine g_aload_n C dX11_drawnOf_21 rfl 2 rfl ?_
  refine g_iload_n C dX11_drawnOf_22 rfl 3 rfl ?_
  refine g_callVi (As := [.int x1]) C dX11_drawnOf_23 ft_387 z0 ft_399 ft_400 (met_X11_rank l hWF z0 hw) ⟨rfl, rfl, Nat.le_of_ble_eq_true rfl, Nat.le_of_ble_eq_true rfl⟩ ⟨Nat.zero_le _, Nat.zero_le _⟩ rfl rfl (Nat.le_of_ble_eq_true rfl) (fun r2 I2 J2 Q2 hp => ?_)
  obtain ⟨hw, eI, eJ, eQ, hWF⟩ := hp
  have eI : (sti I h0 12 r1) = I2 := Eq.symm eI
  subst eI
  have eJ : J = J2 := Eq.symm eJ
  subst eJ
  have eQ : Q = Q2 := Eq.symm eQ
  subst eQ
  try dsimp only at hw hWF
  refine g_istore (lv' := [(4, .int r2), (3, .int (0 : Int32)), (2, .int (((sti I h0 12 r1) h0 12) / (65536 : Int32))), (0, .ref (ad h0)), (1, .int x1)]) C dX11_drawnOf_26 (by decide) rfl ?_
  refine g_iconst (v := (0 : Int32)) C dX11_drawnOf_28 (by decide) ?_
  refine g_istore (lv' := [(5, .int (0 : Int32)), (4, .int r2), (3, .int (0 : Int32)), (2, .int (((sti I h0 12 r1) h0 12) / (65536 : Int32))), (0, .ref (ad h0)), (1, .int x1)]) C dX11_drawnOf_29 (by decide) rfl ?_
  have L31_u8 : ∀ (n31 : Nat) (x3_3 : Int32) (x5_3 : Int32), wp_X11_drawnOf_L31 (sti I h0 12 r1) Q h0 x1 (((sti I h0 12 r1) h0 12) / (65536 : Int32)) r2 post n31 x3_3 x5_3 → WF Z N T Q → GG p l e ({ frames := 4, cells := 0, slots := 0, locals := 92 }) s m [.ref (ad h0), .int x1].toArray below meth c 6 A D D2 0 0 (MQ below (va_Qi (fun (r : Int32) (u : KS) => post r u.1 ∧ u.2.1 = J ∧ u.2.2 = Q ∧ WF Z N T u.2.2) (Bw D D2 ad N T) A) [.ref (ad h0), .int x1].toArray s 0 0 A) ad N T (sti I h0 12 r1) J Q 31 [(0, .ref (ad h0)), (1, .int x1), (2, .int (((sti I h0 12 r1) h0 12) / (65536 : Int32))), (3, .int x3_3), (4, .int r2), (5, .int x5_3)] [] := by
    intro n31
    induction n31 with
    | zero => intro x3_3 x5_3 hw; exact hw.elim
    | succ n31 ih_u8 =>
      intro x3_3 x5_3 hw hWF
      unfold wp_X11_drawnOf_L31 at hw
      refine g_iload C dX11_drawnOf_31 5 rfl ?_
      refine g_iload C dX11_drawnOf_33 4 rfl ?_
      refine g_icmp_ge (tgt := 67) C dX11_drawnOf_35 (by decide) (fun c10 => ?_) (fun c10 => ?_)
      · have hw := hw.1 c10
        refine g_iload_n C dX11_drawnOf_67 rfl 3 rfl ?_
        exact g_iret C dX11_drawnOf_68 hr ⟨hw, rfl, rfl, hWF⟩
      · have hw := hw.2 c10
        refine g_iload_n C dX11_drawnOf_38 rfl 3 rfl ?_
        refine g_iload_n C dX11_drawnOf_39 rfl 2 rfl ?_
        refine g_iload C dX11_drawnOf_40 5 rfl ?_
        refine g_callSi (As := [.int (((sti I h0 12 r1) h0 12) / (65536 : Int32)), .int x5_3]) C dX11_drawnOf_42 ft_381 ft_382 (met_X11_has l hWF  hw) ⟨rfl, rfl, Nat.le_of_ble_eq_true rfl, Nat.le_of_ble_eq_true rfl⟩ ⟨Nat.zero_le _, Nat.zero_le _⟩ rfl rfl (Nat.le_of_ble_eq_true rfl) (fun r11 I11 J11 Q11 hp => ?_)
        obtain ⟨hw, eI, eJ, eQ, hWF⟩ := hp
        have eI : (sti I h0 12 r1) = I11 := Eq.symm eI
        subst eI
        have eJ : J = J11 := Eq.symm eJ
        subst eJ
        have eQ : Q = Q11 := Eq.symm eQ
        subst eQ
        try dsimp only at hw hWF
        refine g_if_eq (tgt := 58) C dX11_drawnOf_45 (by decide) (fun c12 => ?_) (fun c12 => ?_)
        · have hw := hw.1 c12
          refine g_iconst (v := (0 : Int32)) C dX11_drawnOf_58 (by decide) ?_
          refine g_ixor C dX11_drawnOf_59 ?_
          refine g_istore_n (lv' := [(3, .int (x3_3 ^^^ (0 : Int32))), (0, .ref (ad h0)), (1, .int x1), (2, .int (((sti I h0 12 r1) h0 12) / (65536 : Int32))), (4, .int r2), (5, .int x5_3)]) C dX11_drawnOf_60 rfl (by decide) rfl ?_
          refine g_iinc (v := (x5_3 + (1 : Int32))) (lv' := [(5, .int (x5_3 + (1 : Int32))), (3, .int (x3_3 ^^^ (0 : Int32))), (0, .ref (ad h0)), (1, .int x1), (2, .int (((sti I h0 12 r1) h0 12) / (65536 : Int32))), (4, .int r2)]) C dX11_drawnOf_61 (q := 5) rfl rfl (by decide) rfl ?_
          refine g_goto C dX11_drawnOf_64 (tgt := 31) (by decide) ?_
          refine g_sub [2, 3, 4, 1, 5, 0] rfl ?_
          exact ih_u8 (x3_3 ^^^ (0 : Int32)) (x5_3 + (1 : Int32)) hw hWF
        · have hw := hw.2 c12
          refine g_aload_n C dX11_drawnOf_48 rfl 0 rfl ?_
          refine g_iload_n C dX11_drawnOf_49 rfl 1 rfl ?_
          refine g_iload C dX11_drawnOf_50 5 rfl ?_
          refine g_callVi (As := [.int x1, .int x5_3]) C dX11_drawnOf_52 ft_387 z0 ft_409 ft_410 (met_X11_sumOf l hWF z0 hw) ⟨rfl, rfl, Nat.le_of_ble_eq_true rfl, Nat.le_of_ble_eq_true rfl⟩ ⟨Nat.zero_le _, Nat.zero_le _⟩ rfl rfl (Nat.le_of_ble_eq_true rfl) (fun r13 I13 J13 Q13 hp => ?_)
          obtain ⟨hw, eI, eJ, eQ, hWF⟩ := hp
          have eI : (sti I h0 12 r1) = I13 := Eq.symm eI
          subst eI
          have eJ : J = J13 := Eq.symm eJ
          subst eJ
          have eQ : Q = Q13 := Eq.symm eQ
          subst eQ
          try dsimp only at hw hWF
          refine g_goto C dX11_drawnOf_55 (tgt := 59) (by decide) ?_
          refine g_ixor C dX11_drawnOf_59 ?_
          refine g_istore_n (lv' := [(3, .int (x3_3 ^^^ r13)), (0, .ref (ad h0)), (1, .int x1), (2, .int (((sti I h0 12 r1) h0 12) / (65536 : Int32))), (4, .int r2), (5, .int x5_3)]) C dX11_drawnOf_60 rfl (by decide) rfl ?_
          refine g_iinc (v := (x5_3 + (1 : Int32))) (lv' := [(5, .int (x5_3 + (1 : Int32))), (3, .int (x3_3 ^^^ r13)), (0, .ref (ad h0)), (1, .int x1), (2, .int (((sti I h0 12 r1) h0 12) / (65536 : Int32))), (4, .int r2)]) C dX11_drawnOf_61 (q := 5) rfl rfl (by decide) rfl ?_
          refine g_goto C dX11_drawnOf_64 (tgt := 31) (by decide) ?_
          refine g_sub [2, 3, 4, 1, 5, 0] rfl ?_
          exact ih_u8 (x3_3 ^^^ r13) (x5_3 + (1 : Int32)) hw hWF
  obtain ⟨n_u8, hw⟩ := hw
  refine g_sub [4, 5, 3, 2, 1, 0] rfl ?_
  exact L31_u8 n_u8 (0 : Int32) (0 : Int32) hw hWF
def wp_X11_laysSends_L193 (Qf_19 : KQ) (f0_19 : Nat) (f1_19 : Int32) (f2_19 : Int32) (k224 : KI → Prop) : Nat → KI → Int32 → Prop
  | 0, _, _ => False
  | n193 + 1, I_19, x4_19 => ((f2_19 ≤ x4_19 → k224 I_19) ∧ (¬ f2_19 ≤ x4_19 → wp_X11_sumOf I_19 Qf_19 f0_19 f1_19 x4_19 (fun r22 => (vp_in (((8 : Int32) * f1_19) + x4_19) 48 ∧ wp_X11_laysSends_L193 Qf_19 f0_19 f1_19 f2_19 k224 n193 (sti I_19 (rq Qf_19 f0_19 11) (((8 : Int32) * f1_19) + x4_19).toNatClampNeg r22) (x4_19 + (1 : Int32))))))
def wp_X11_laysSends_L12 (Qf_2 : KQ) (f0_2 : Nat) (post : KI → Prop) : Nat → KI → Int32 → Prop
  | 0, _, _ => False
  | n12 + 1, I_2, x1_2 => (((I_2 (rq Qf_2 f0_2 0) (0 : Int32).toNatClampNeg) ≤ x1_2 → post I_2) ∧ (¬ (I_2 (rq Qf_2 f0_2 0) (0 : Int32).toNatClampNeg) ≤ x1_2 → wp_X11_rank I_2 Qf_2 f0_2 x1_2 (fun r5 => ((fun (k8 : Int32 → Prop) => ((¬ (I_2 (rq Qf_2 f0_2 0) (2 : Int32).toNatClampNeg) = 0 → ((¬ (I_2 (rq Qf_2 f0_2 0) (2 : Int32).toNatClampNeg) = (1 : Int32) → k8 (-4 : Int32)) ∧ ((I_2 (rq Qf_2 f0_2 0) (2 : Int32).toNatClampNeg) = (1 : Int32) → wp_X11_turnOf I_2 Qf_2 f0_2 x1_2 (fun r11 => k8 r11)))) ∧ ((I_2 (rq Qf_2 f0_2 0) (2 : Int32).toNatClampNeg) = 0 → wp_X11_leastOf I_2 Qf_2 f0_2 x1_2 (fun r12 => k8 r12)))) (fun s0_8 => (vp_in x1_2 6 ∧ (((1 : Int32) < ((sti I_2 (rq Qf_2 f0_2 10) x1_2.toNatClampNeg (0 : Int32)) (rq Qf_2 f0_2 0) (2 : Int32).toNatClampNeg) → ((¬ ((sti I_2 (rq Qf_2 f0_2 10) x1_2.toNatClampNeg (0 : Int32)) (rq Qf_2 f0_2 0) (2 : Int32).toNatClampNeg) = (2 : Int32) → (vp_in x1_2 6 ∧ (∃ q193, wp_X11_laysSends_L193 Qf_2 f0_2 x1_2 r5 (fun I_24 => wp_X11_laysSends_L12 Qf_2 f0_2 post n12 I_24 (x1_2 + (1 : Int32))) q193 (sti (sti I_2 (rq Qf_2 f0_2 10) x1_2.toNatClampNeg (0 : Int32)) (rq Qf_2 f0_2 10) x1_2.toNatClampNeg r5) (0 : Int32)))) ∧ (((sti I_2 (rq Qf_2 f0_2 10) x1_2.toNatClampNeg (0 : Int32)) (rq Qf_2 f0_2 0) (2 : Int32).toNatClampNeg) = (2 : Int32) → ((fun (k31 : KI → Int32 → Prop) => ((r5 ≤ 0 → k31 (sti I_2 (rq Qf_2 f0_2 10) x1_2.toNatClampNeg (0 : Int32)) (0 : Int32)) ∧ (¬ r5 ≤ 0 → wp_X11_drawnOf (sti I_2 (rq Qf_2 f0_2 10) x1_2.toNatClampNeg (0 : Int32)) Qf_2 f0_2 x1_2 (fun r32 I32 => k31 I32 r32)))) (fun Ij_31 s0_31 => (vp_in ((8 : Int32) * x1_2) 48 ∧ (vp_in ((8 : Int32) * x1_2) 48 ∧ ((fun (k36 : Int32 → Prop) => ((¬ ((sti Ij_31 (rq Qf_2 f0_2 11) ((8 : Int32) * x1_2).toNatClampNeg s0_31) (rq Qf_2 f0_2 11) ((8 : Int32) * x1_2).toNatClampNeg) = 0 → k36 (1 : Int32)) ∧ (((sti Ij_31 (rq Qf_2 f0_2 11) ((8 : Int32) * x1_2).toNatClampNeg s0_31) (rq Qf_2 f0_2 11) ((8 : Int32) * x1_2).toNatClampNeg) = 0 → k36 (0 : Int32)))) (fun s0_36 => (vp_in x1_2 6 ∧ wp_X11_laysSends_L12 Qf_2 f0_2 post n12 (sti (sti Ij_31 (rq Qf_2 f0_2 11) ((8 : Int32) * x1_2).toNatClampNeg s0_31) (rq Qf_2 f0_2 10) x1_2.toNatClampNeg s0_36) (x1_2 + (1 : Int32)))))))))))) ∧ (¬ (1 : Int32) < ((sti I_2 (rq Qf_2 f0_2 10) x1_2.toNatClampNeg (0 : Int32)) (rq Qf_2 f0_2 0) (2 : Int32).toNatClampNeg) → ((fun (k39 : Int32 → Prop) => ((¬ s0_8 = (-4 : Int32) → k39 (1 : Int32)) ∧ (s0_8 = (-4 : Int32) → k39 (0 : Int32)))) (fun s0_39 => (vp_in x1_2 6 ∧ ((fun (k42 : Int32 → Prop) => ((¬ s0_8 = (-4 : Int32) → k42 ((1 : Int32) <<< (s0_8 &&& 31))) ∧ (s0_8 = (-4 : Int32) → k42 (0 : Int32)))) (fun s0_42 => (vp_in ((8 : Int32) * x1_2) 48 ∧ wp_X11_laysSends_L12 Qf_2 f0_2 post n12 (sti (sti (sti I_2 (rq Qf_2 f0_2 10) x1_2.toNatClampNeg (0 : Int32)) (rq Qf_2 f0_2 10) x1_2.toNatClampNeg s0_39) (rq Qf_2 f0_2 11) ((8 : Int32) * x1_2).toNatClampNeg s0_42) (x1_2 + (1 : Int32))))))))))))))))
def wp_X11_laysSends (I : KI) (Q : KQ) (h0 : Nat) (post : KI → Prop) : Prop := (∃ q12, wp_X11_laysSends_L12 Q h0 post q12 (sti I h0 12 (I (rq Q h0 0) (5 : Int32).toNatClampNeg)) (0 : Int32))
set_option maxHeartbeats 4000000 in
set_option maxRecDepth 100000 in
theorem met_X11_laysSends {Z : Nat → Prop} {A : Nat → Prop} {D : va_G} {D2 : Nat → ClassId} {ad : Nat → Nat} {N : Nat} {T : Nat → Nat × Nat} (l : Launch) {I : KI} {J : KJ} {Q : KQ} {h0 : Nat} {post : KI → Prop} (hWF : WF Z N T Q) (z0 : OKr Z N T h0 (11, 0)) (hw : wp_X11_laysSends I Q h0 post) : Met l yX11_laysSends (.code yX11_laysSends cX11_laysSends 5 none :: BIG) ({ frames := 5, cells := 0, slots := 0, locals := 117 }) (Pr D D2 A ad N T I J Q [.ref (ad h0)]) (va_Qv (fun (u : KS) => post u.1 ∧ u.2.1 = J ∧ u.2.2 = Q ∧ WF Z N T u.2.2) (Bw D D2 ad N T) A) 0 0 A := by
  refine Met_GG (lv0 := [(0, .ref (ad h0))]) (by decide +kernel) [.ref (ad h0)] (Nat.le_of_ble_eq_true rfl) rfl ?_
  intro p e s m below meth c C hr
  have C : CX p s m [.ref (ad h0)].toArray meth c cX11_laysSends 5 RX11 A D D2 := C
  unfold wp_X11_laysSends at hw
  refine g_aload_n C dX11_laysSends_0 rfl 0 rfl ?_
  refine g_aload_n C dX11_laysSends_1 rfl 0 rfl ?_
  refine g_getQ C dX11_laysSends_2 ft_363 z0 (hWF.q z0 0 rfl) ?_
  have zz1 := hWF.r z0 0 rfl
  refine g_iconst (v := (5 : Int32)) C dX11_laysSends_5 (by decide) ?_
  refine g_iald C dX11_laysSends_6 zz1 (vp_lit (by decide +kernel)) ?_
  refine g_putI C dX11_laysSends_7 ft_407 z0 ?_
  refine g_iconst (v := (0 : Int32)) C dX11_laysSends_10 (by decide) ?_
  refine g_istore_n (lv' := [(1, .int (0 : Int32)), (0, .ref (ad h0))]) C dX11_laysSends_11 rfl (by decide) rfl ?_
  have L12_u43 : ∀ (n12 : Nat) (I_2 : KI) (x1_2 : Int32), wp_X11_laysSends_L12 Q h0 post n12 I_2 x1_2 → WF Z N T Q → GG p l e ({ frames := 5, cells := 0, slots := 0, locals := 117 }) s m [.ref (ad h0)].toArray below meth c 5 A D D2 0 0 (MQ below (va_Qv (fun (u : KS) => post u.1 ∧ u.2.1 = J ∧ u.2.2 = Q ∧ WF Z N T u.2.2) (Bw D D2 ad N T) A) [.ref (ad h0)].toArray s 0 0 A) ad N T I_2 J Q 12 [(0, .ref (ad h0)), (1, .int x1_2)] [] := by
    intro n12
    induction n12 with
    | zero => intro I_2 x1_2 hw; exact hw.elim
    | succ n12 ih_u43 =>
      intro I_2 x1_2 hw hWF
      unfold wp_X11_laysSends_L12 at hw
      refine g_iload_n C dX11_laysSends_12 rfl 1 rfl ?_
      refine g_aload_n C dX11_laysSends_13 rfl 0 rfl ?_
      refine g_getQ C dX11_laysSends_14 ft_363 z0 (hWF.q z0 0 rfl) ?_
      have zz45 := hWF.r z0 0 rfl
      refine g_iconst (v := (0 : Int32)) C dX11_laysSends_17 (by decide) ?_
      refine g_iald C dX11_laysSends_18 zz45 (vp_lit (by decide +kernel)) ?_
      refine g_icmp_ge (tgt := 230) C dX11_laysSends_19 (by decide) (fun c46 => ?_) (fun c46 => ?_)
      · have hw := hw.1 c46
        exact g_vret C dX11_laysSends_230 hr ⟨hw, rfl, rfl, hWF⟩
      · have hw := hw.2 c46
        refine g_aload_n C dX11_laysSends_22 rfl 0 rfl ?_
        refine g_iload_n C dX11_laysSends_23 rfl 1 rfl ?_
        refine g_callVi (As := [.int x1_2]) C dX11_laysSends_24 ft_387 z0 ft_399 ft_400 (met_X11_rank l hWF z0 hw) ⟨rfl, rfl, Nat.le_of_ble_eq_true rfl, Nat.le_of_ble_eq_true rfl⟩ ⟨Nat.zero_le _, Nat.zero_le _⟩ rfl rfl (Nat.le_of_ble_eq_true rfl) (fun r47 I47 J47 Q47 hp => ?_)
        obtain ⟨hw, eI, eJ, eQ, hWF⟩ := hp
        have eI : I_2 = I47 := Eq.symm eI
        subst eI
        have eJ : J = J47 := Eq.symm eJ
        subst eJ
        have eQ : Q = Q47 := Eq.symm eQ
        subst eQ
        try dsimp only at hw hWF
        refine g_istore_n (lv' := [(2, .int r47), (0, .ref (ad h0)), (1, .int x1_2)]) C dX11_laysSends_27 rfl (by decide) rfl ?_
        refine g_aload_n C dX11_laysSends_28 rfl 1 rfl ?_
        refine g_getQ C dX11_laysSends_29 ft_363 z0 (hWF.q z0 0 rfl) ?_
        have zz48 := hWF.r z0 0 rfl
        refine g_iconst (v := (2 : Int32)) C dX11_laysSends_32 (by decide) ?_
        refine g_iald C dX11_laysSends_33 zz48 (vp_lit (by decide +kernel)) ?_
        have J50 : ∀ (s0_50 : Int32), ((vp_in x1_2 6 ∧ (((1 : Int32) < ((sti I_2 (rq Q h0 10) x1_2.toNatClampNeg (0 : Int32)) (rq Q h0 0) (2 : Int32).toNatClampNeg) → ((¬ ((sti I_2 (rq Q h0 10) x1_2.toNatClampNeg (0 : Int32)) (rq Q h0 0) (2 : Int32).toNatClampNeg) = (2 : Int32) → (vp_in x1_2 6 ∧ (∃ q193, wp_X11_laysSends_L193 Q h0 x1_2 r47 (fun I_63 => wp_X11_laysSends_L12 Q h0 post n12 I_63 (x1_2 + (1 : Int32))) q193 (sti (sti I_2 (rq Q h0 10) x1_2.toNatClampNeg (0 : Int32)) (rq Q h0 10) x1_2.toNatClampNeg r47) (0 : Int32)))) ∧ (((sti I_2 (rq Q h0 10) x1_2.toNatClampNeg (0 : Int32)) (rq Q h0 0) (2 : Int32).toNatClampNeg) = (2 : Int32) → ((fun (k70 : KI → Int32 → Prop) => ((r47 ≤ 0 → k70 (sti I_2 (rq Q h0 10) x1_2.toNatClampNeg (0 : Int32)) (0 : Int32)) ∧ (¬ r47 ≤ 0 → wp_X11_drawnOf (sti I_2 (rq Q h0 10) x1_2.toNatClampNeg (0 : Int32)) Q h0 x1_2 (fun r71 I71 => k70 I71 r71)))) (fun Ij_70 s0_70 => (vp_in ((8 : Int32) * x1_2) 48 ∧ (vp_in ((8 : Int32) * x1_2) 48 ∧ ((fun (k75 : Int32 → Prop) => ((¬ ((sti Ij_70 (rq Q h0 11) ((8 : Int32) * x1_2).toNatClampNeg s0_70) (rq Q h0 11) ((8 : Int32) * x1_2).toNatClampNeg) = 0 → k75 (1 : Int32)) ∧ (((sti Ij_70 (rq Q h0 11) ((8 : Int32) * x1_2).toNatClampNeg s0_70) (rq Q h0 11) ((8 : Int32) * x1_2).toNatClampNeg) = 0 → k75 (0 : Int32)))) (fun s0_75 => (vp_in x1_2 6 ∧ wp_X11_laysSends_L12 Q h0 post n12 (sti (sti Ij_70 (rq Q h0 11) ((8 : Int32) * x1_2).toNatClampNeg s0_70) (rq Q h0 10) x1_2.toNatClampNeg s0_75) (x1_2 + (1 : Int32)))))))))))) ∧ (¬ (1 : Int32) < ((sti I_2 (rq Q h0 10) x1_2.toNatClampNeg (0 : Int32)) (rq Q h0 0) (2 : Int32).toNatClampNeg) → ((fun (k78 : Int32 → Prop) => ((¬ s0_50 = (-4 : Int32) → k78 (1 : Int32)) ∧ (s0_50 = (-4 : Int32) → k78 (0 : Int32)))) (fun s0_78 => (vp_in x1_2 6 ∧ ((fun (k81 : Int32 → Prop) => ((¬ s0_50 = (-4 : Int32) → k81 ((1 : Int32) <<< (s0_50 &&& 31))) ∧ (s0_50 = (-4 : Int32) → k81 (0 : Int32)))) (fun s0_81 => (vp_in ((8 : Int32) * x1_2) 48 ∧ wp_X11_laysSends_L12 Q h0 post n12 (sti (sti (sti I_2 (rq Q h0 10) x1_2.toNatClampNeg (0 : Int32)) (rq Q h0 10) x1_2.toNatClampNeg s0_78) (rq Q h0 11) ((8 : Int32) * x1_2).toNatClampNeg s0_81) (x1_2 + (1 : Int32)))))))))))) → WF Z N T Q → GG p l e ({ frames := 5, cells := 0, slots := 0, locals := 117 }) s m [.ref (ad h0)].toArray below meth c 5 A D D2 0 0 (MQ below (va_Qv (fun (u : KS) => post u.1 ∧ u.2.1 = J ∧ u.2.2 = Q ∧ WF Z N T u.2.2) (Bw D D2 ad N T) A) [.ref (ad h0)].toArray s 0 0 A) ad N T I_2 J Q 65 [(0, .ref (ad h0)), (1, .int x1_2), (2, .int r47)] [.int s0_50] := by
          intro s0_50 hw hWF
          refine g_istore_n (lv' := [(3, .int s0_50), (0, .ref (ad h0)), (1, .int x1_2), (2, .int r47)]) C dX11_laysSends_65 rfl (by decide) rfl ?_
          refine g_aload_n C dX11_laysSends_66 rfl 1 rfl ?_
          refine g_getQ C dX11_laysSends_67 ft_417 z0 (hWF.q z0 10 rfl) ?_
          have zz55 := hWF.r z0 10 rfl
          refine g_iload_n C dX11_laysSends_70 rfl 2 rfl ?_
          refine g_iconst (v := (0 : Int32)) C dX11_laysSends_71 (by decide) ?_
          refine g_iast C dX11_laysSends_72 zz55 hw.1 ?_
          have hw := hw.2
          refine g_aload_n C dX11_laysSends_73 rfl 1 rfl ?_
          refine g_getQ C dX11_laysSends_74 ft_363 z0 (hWF.q z0 0 rfl) ?_
          have zz56 := hWF.r z0 0 rfl
          refine g_iconst (v := (2 : Int32)) C dX11_laysSends_77 (by decide) ?_
          refine g_iald C dX11_laysSends_78 zz56 (vp_lit (by decide +kernel)) ?_
          refine g_iconst (v := (1 : Int32)) C dX11_laysSends_79 (by decide) ?_
          refine g_icmp_gt (tgt := 125) C dX11_laysSends_80 (by decide) (fun c57 => ?_) (fun c57 => ?_)
          · have hw := hw.1 c57
            refine g_aload_n C dX11_laysSends_125 rfl 1 rfl ?_
            refine g_getQ C dX11_laysSends_126 ft_363 z0 (hWF.q z0 0 rfl) ?_
            have zz58 := hWF.r z0 0 rfl
            refine g_iconst (v := (2 : Int32)) C dX11_laysSends_129 (by decide) ?_
            refine g_iald C dX11_laysSends_130 zz58 (vp_lit (by decide +kernel)) ?_
            refine g_iconst (v := (2 : Int32)) C dX11_laysSends_131 (by decide) ?_
            refine g_icmp_ne (tgt := 183) C dX11_laysSends_132 (by decide) (fun c59 => ?_) (fun c59 => ?_)
            · have hw := hw.1 c59
              refine g_aload_n C dX11_laysSends_183 rfl 1 rfl ?_
              refine g_getQ C dX11_laysSends_184 ft_417 z0 (hWF.q z0 10 rfl) ?_
              have zz60 := hWF.r z0 10 rfl
              refine g_iload_n C dX11_laysSends_187 rfl 2 rfl ?_
              refine g_iload_n C dX11_laysSends_188 rfl 3 rfl ?_
              refine g_iast C dX11_laysSends_189 zz60 hw.1 ?_
              have hw := hw.2
              refine g_iconst (v := (0 : Int32)) C dX11_laysSends_190 (by decide) ?_
              refine g_istore (lv' := [(4, .int (0 : Int32)), (3, .int s0_50), (0, .ref (ad h0)), (1, .int x1_2), (2, .int r47)]) C dX11_laysSends_191 (by decide) rfl ?_
              have K224_u62 : ∀ (I_63 : KI), (wp_X11_laysSends_L12 Q h0 post n12 I_63 (x1_2 + (1 : Int32))) → WF Z N T Q → GG p l e ({ frames := 5, cells := 0, slots := 0, locals := 117 }) s m [.ref (ad h0)].toArray below meth c 5 A D D2 0 0 (MQ below (va_Qv (fun (u : KS) => post u.1 ∧ u.2.1 = J ∧ u.2.2 = Q ∧ WF Z N T u.2.2) (Bw D D2 ad N T) A) [.ref (ad h0)].toArray s 0 0 A) ad N T I_63 J Q 224 [(0, .ref (ad h0)), (1, .int x1_2)] [] := by
                intro I_63 hw hWF
                refine g_iinc (v := (x1_2 + (1 : Int32))) (lv' := [(1, .int (x1_2 + (1 : Int32))), (0, .ref (ad h0))]) C dX11_laysSends_224 (q := 1) rfl rfl (by decide) rfl ?_
                refine g_goto C dX11_laysSends_227 (tgt := 12) (by decide) ?_
                refine g_sub [1, 0] rfl ?_
                exact ih_u43 I_63 (x1_2 + (1 : Int32)) hw hWF
              have L193_u62 : ∀ (n193 : Nat) (I_19 : KI) (x4_19 : Int32), wp_X11_laysSends_L193 Q h0 x1_2 r47 (fun I_63 => wp_X11_laysSends_L12 Q h0 post n12 I_63 (x1_2 + (1 : Int32))) n193 I_19 x4_19 → WF Z N T Q → GG p l e ({ frames := 5, cells := 0, slots := 0, locals := 117 }) s m [.ref (ad h0)].toArray below meth c 5 A D D2 0 0 (MQ below (va_Qv (fun (u : KS) => post u.1 ∧ u.2.1 = J ∧ u.2.2 = Q ∧ WF Z N T u.2.2) (Bw D D2 ad N T) A) [.ref (ad h0)].toArray s 0 0 A) ad N T I_19 J Q 193 [(0, .ref (ad h0)), (1, .int x1_2), (2, .int r47), (4, .int x4_19)] [] := by
                intro n193
                induction n193 with
                | zero => intro I_19 x4_19 hw; exact hw.elim
                | succ n193 ih_u62 =>
                  intro I_19 x4_19 hw hWF
                  unfold wp_X11_laysSends_L193 at hw
                  refine g_iload C dX11_laysSends_193 3 rfl ?_
                  refine g_iload_n C dX11_laysSends_195 rfl 2 rfl ?_
                  refine g_icmp_ge (tgt := 224) C dX11_laysSends_196 (by decide) (fun c65 => ?_) (fun c65 => ?_)
                  · have hw := hw.1 c65
                    refine g_sub [0, 1] rfl ?_
                    exact K224_u62 I_19 hw hWF
                  · have hw := hw.2 c65
                    refine g_aload_n C dX11_laysSends_199 rfl 0 rfl ?_
                    refine g_getQ C dX11_laysSends_200 ft_418 z0 (hWF.q z0 11 rfl) ?_
                    have zz66 := hWF.r z0 11 rfl
                    refine g_bipush (v := (8 : Int32)) C dX11_laysSends_203 (by decide) ?_
                    refine g_iload_n C dX11_laysSends_205 rfl 1 rfl ?_
                    refine g_imul C dX11_laysSends_206 ?_
                    refine g_iload C dX11_laysSends_207 3 rfl ?_
                    refine g_iadd C dX11_laysSends_209 ?_
                    refine g_aload_n C dX11_laysSends_210 rfl 0 rfl ?_
                    refine g_iload_n C dX11_laysSends_211 rfl 1 rfl ?_
                    refine g_iload C dX11_laysSends_212 3 rfl ?_
                    refine g_callVi (As := [.int x1_2, .int x4_19]) C dX11_laysSends_214 ft_387 z0 ft_409 ft_410 (met_X11_sumOf l hWF z0 hw) ⟨rfl, rfl, Nat.le_of_ble_eq_true rfl, Nat.le_of_ble_eq_true rfl⟩ ⟨Nat.zero_le _, Nat.zero_le _⟩ rfl rfl (Nat.le_of_ble_eq_true rfl) (fun r67 I67 J67 Q67 hp => ?_)
                    obtain ⟨hw, eI, eJ, eQ, hWF⟩ := hp
                    have eI : I_19 = I67 := Eq.symm eI
                    subst eI
                    have eJ : J = J67 := Eq.symm eJ
                    subst eJ
                    have eQ : Q = Q67 := Eq.symm eQ
                    subst eQ
                    try dsimp only at hw hWF
                    refine g_iast C dX11_laysSends_217 zz66 hw.1 ?_
                    have hw := hw.2
                    refine g_iinc (v := (x4_19 + (1 : Int32))) (lv' := [(4, .int (x4_19 + (1 : Int32))), (0, .ref (ad h0)), (1, .int x1_2), (2, .int r47)]) C dX11_laysSends_218 (q := 3) rfl rfl (by decide) rfl ?_
                    refine g_goto C dX11_laysSends_221 (tgt := 193) (by decide) ?_
                    refine g_sub [1, 2, 3, 0] rfl ?_
                    exact ih_u62 (sti I_19 (rq Q h0 11) (((8 : Int32) * x1_2) + x4_19).toNatClampNeg r67) (x4_19 + (1 : Int32)) hw hWF
              obtain ⟨n_u62, hw⟩ := hw
              refine g_sub [2, 3, 4, 0] rfl ?_
              exact L193_u62 n_u62 (sti (sti I_2 (rq Q h0 10) x1_2.toNatClampNeg (0 : Int32)) (rq Q h0 10) x1_2.toNatClampNeg r47) (0 : Int32) hw hWF
            · have hw := hw.2 c59
              refine g_aload_n C dX11_laysSends_135 rfl 1 rfl ?_
              refine g_getQ C dX11_laysSends_136 ft_418 z0 (hWF.q z0 11 rfl) ?_
              have zz68 := hWF.r z0 11 rfl
              refine g_bipush (v := (8 : Int32)) C dX11_laysSends_139 (by decide) ?_
              refine g_iload_n C dX11_laysSends_141 rfl 2 rfl ?_
              refine g_imul C dX11_laysSends_142 ?_
              refine g_iload_n C dX11_laysSends_143 rfl 3 rfl ?_
              have J70 : ∀ (Ij_70 : KI) (s0_70 : Int32), ((vp_in ((8 : Int32) * x1_2) 48 ∧ (vp_in ((8 : Int32) * x1_2) 48 ∧ ((fun (k75 : Int32 → Prop) => ((¬ ((sti Ij_70 (rq Q h0 11) ((8 : Int32) * x1_2).toNatClampNeg s0_70) (rq Q h0 11) ((8 : Int32) * x1_2).toNatClampNeg) = 0 → k75 (1 : Int32)) ∧ (((sti Ij_70 (rq Q h0 11) ((8 : Int32) * x1_2).toNatClampNeg s0_70) (rq Q h0 11) ((8 : Int32) * x1_2).toNatClampNeg) = 0 → k75 (0 : Int32)))) (fun s0_75 => (vp_in x1_2 6 ∧ wp_X11_laysSends_L12 Q h0 post n12 (sti (sti Ij_70 (rq Q h0 11) ((8 : Int32) * x1_2).toNatClampNeg s0_70) (rq Q h0 10) x1_2.toNatClampNeg s0_75) (x1_2 + (1 : Int32)))))))) → WF Z N T Q → GG p l e ({ frames := 5, cells := 0, slots := 0, locals := 117 }) s m [.ref (ad h0)].toArray below meth c 5 A D D2 0 0 (MQ below (va_Qv (fun (u : KS) => post u.1 ∧ u.2.1 = J ∧ u.2.2 = Q ∧ WF Z N T u.2.2) (Bw D D2 ad N T) A) [.ref (ad h0)].toArray s 0 0 A) ad N T Ij_70 J Q 156 [(0, .ref (ad h0)), (1, .int x1_2)] [.int s0_70, .int ((8 : Int32) * x1_2), .ref (ad (rq Q h0 11))] := by
                intro Ij_70 s0_70 hw hWF
                refine g_iast C dX11_laysSends_156 zz68 hw.1 ?_
                have hw := hw.2
                refine g_aload_n C dX11_laysSends_157 rfl 0 rfl ?_
                refine g_getQ C dX11_laysSends_158 ft_417 z0 (hWF.q z0 10 rfl) ?_
                have zz72 := hWF.r z0 10 rfl
                refine g_iload_n C dX11_laysSends_161 rfl 1 rfl ?_
                refine g_aload_n C dX11_laysSends_162 rfl 0 rfl ?_
                refine g_getQ C dX11_laysSends_163 ft_418 z0 (hWF.q z0 11 rfl) ?_
                have zz73 := hWF.r z0 11 rfl
                refine g_bipush (v := (8 : Int32)) C dX11_laysSends_166 (by decide) ?_
                refine g_iload_n C dX11_laysSends_168 rfl 1 rfl ?_
                refine g_imul C dX11_laysSends_169 ?_
                refine g_iald C dX11_laysSends_170 zz73 hw.1 ?_
                have hw := hw.2
                have J75 : ∀ (s0_75 : Int32), ((vp_in x1_2 6 ∧ wp_X11_laysSends_L12 Q h0 post n12 (sti (sti Ij_70 (rq Q h0 11) ((8 : Int32) * x1_2).toNatClampNeg s0_70) (rq Q h0 10) x1_2.toNatClampNeg s0_75) (x1_2 + (1 : Int32)))) → WF Z N T Q → GG p l e ({ frames := 5, cells := 0, slots := 0, locals := 117 }) s m [.ref (ad h0)].toArray below meth c 5 A D D2 0 0 (MQ below (va_Qv (fun (u : KS) => post u.1 ∧ u.2.1 = J ∧ u.2.2 = Q ∧ WF Z N T u.2.2) (Bw D D2 ad N T) A) [.ref (ad h0)].toArray s 0 0 A) ad N T (sti Ij_70 (rq Q h0 11) ((8 : Int32) * x1_2).toNatClampNeg s0_70) J Q 179 [(0, .ref (ad h0)), (1, .int x1_2)] [.int s0_75, .int x1_2, .ref (ad (rq Q h0 10))] := by
                  intro s0_75 hw hWF
                  refine g_iast C dX11_laysSends_179 zz72 hw.1 ?_
                  have hw := hw.2
                  refine g_goto C dX11_laysSends_180 (tgt := 224) (by decide) ?_
                  refine g_iinc (v := (x1_2 + (1 : Int32))) (lv' := [(1, .int (x1_2 + (1 : Int32))), (0, .ref (ad h0))]) C dX11_laysSends_224 (q := 1) rfl rfl (by decide) rfl ?_
                  refine g_goto C dX11_laysSends_227 (tgt := 12) (by decide) ?_
                  refine g_sub [1, 0] rfl ?_
                  exact ih_u43 (sti (sti Ij_70 (rq Q h0 11) ((8 : Int32) * x1_2).toNatClampNeg s0_70) (rq Q h0 10) x1_2.toNatClampNeg s0_75) (x1_2 + (1 : Int32)) hw hWF
                refine g_if_ne (tgt := 178) C dX11_laysSends_171 (by decide) (fun c74 => ?_) (fun c74 => ?_)
                · have hw := hw.1 c74
                  refine g_iconst (v := (1 : Int32)) C dX11_laysSends_178 (by decide) ?_
                  exact J75 (1 : Int32) hw hWF
                · have hw := hw.2 c74
                  refine g_iconst (v := (0 : Int32)) C dX11_laysSends_174 (by decide) ?_
                  refine g_goto C dX11_laysSends_175 (tgt := 179) (by decide) ?_
                  exact J75 (0 : Int32) hw hWF
              refine g_if_le (tgt := 155) C dX11_laysSends_144 (by decide) (fun c69 => ?_) (fun c69 => ?_)
              · have hw := hw.1 c69
                refine g_iconst (v := (0 : Int32)) C dX11_laysSends_155 (by decide) ?_
                refine g_sub [1, 2] rfl ?_
                exact J70 (sti I_2 (rq Q h0 10) x1_2.toNatClampNeg (0 : Int32)) (0 : Int32) hw hWF
              · have hw := hw.2 c69
                refine g_aload_n C dX11_laysSends_147 rfl 1 rfl ?_
                refine g_iload_n C dX11_laysSends_148 rfl 2 rfl ?_
                refine g_callVi (As := [.int x1_2]) C dX11_laysSends_149 ft_387 z0 ft_419 ft_420 (met_X11_drawnOf l hWF z0 hw) ⟨rfl, rfl, Nat.le_of_ble_eq_true rfl, Nat.le_of_ble_eq_true rfl⟩ ⟨Nat.zero_le _, Nat.zero_le _⟩ rfl rfl (Nat.le_of_ble_eq_true rfl) (fun r71 I71 J71 Q71 hp => ?_)
                obtain ⟨hw, eJ, eQ, hWF⟩ := hp
                have eJ : J = J71 := Eq.symm eJ
                subst eJ
                have eQ : Q = Q71 := Eq.symm eQ
                subst eQ
                try dsimp only at hw hWF
                refine g_goto C dX11_laysSends_152 (tgt := 156) (by decide) ?_
                refine g_sub [1, 2] rfl ?_
                exact J70 I71 r71 hw hWF
          · have hw := hw.2 c57
            refine g_aload_n C dX11_laysSends_83 rfl 1 rfl ?_
            refine g_getQ C dX11_laysSends_84 ft_417 z0 (hWF.q z0 10 rfl) ?_
            have zz76 := hWF.r z0 10 rfl
            refine g_iload_n C dX11_laysSends_87 rfl 2 rfl ?_
            refine g_iload_n C dX11_laysSends_88 rfl 0 rfl ?_
            refine g_bipush (v := (-4 : Int32)) C dX11_laysSends_89 (by decide) ?_
            have J78 : ∀ (s0_78 : Int32), ((vp_in x1_2 6 ∧ ((fun (k81 : Int32 → Prop) => ((¬ s0_50 = (-4 : Int32) → k81 ((1 : Int32) <<< (s0_50 &&& 31))) ∧ (s0_50 = (-4 : Int32) → k81 (0 : Int32)))) (fun s0_81 => (vp_in ((8 : Int32) * x1_2) 48 ∧ wp_X11_laysSends_L12 Q h0 post n12 (sti (sti (sti I_2 (rq Q h0 10) x1_2.toNatClampNeg (0 : Int32)) (rq Q h0 10) x1_2.toNatClampNeg s0_78) (rq Q h0 11) ((8 : Int32) * x1_2).toNatClampNeg s0_81) (x1_2 + (1 : Int32))))))) → WF Z N T Q → GG p l e ({ frames := 5, cells := 0, slots := 0, locals := 117 }) s m [.ref (ad h0)].toArray below meth c 5 A D D2 0 0 (MQ below (va_Qv (fun (u : KS) => post u.1 ∧ u.2.1 = J ∧ u.2.2 = Q ∧ WF Z N T u.2.2) (Bw D D2 ad N T) A) [.ref (ad h0)].toArray s 0 0 A) ad N T (sti I_2 (rq Q h0 10) x1_2.toNatClampNeg (0 : Int32)) J Q 99 [(0, .ref (ad h0)), (1, .int x1_2), (3, .int s0_50)] [.int s0_78, .int x1_2, .ref (ad (rq Q h0 10))] := by
              intro s0_78 hw hWF
              refine g_iast C dX11_laysSends_99 zz76 hw.1 ?_
              have hw := hw.2
              refine g_aload_n C dX11_laysSends_100 rfl 0 rfl ?_
              refine g_getQ C dX11_laysSends_101 ft_418 z0 (hWF.q z0 11 rfl) ?_
              have zz79 := hWF.r z0 11 rfl
              refine g_bipush (v := (8 : Int32)) C dX11_laysSends_104 (by decide) ?_
              refine g_iload_n C dX11_laysSends_106 rfl 1 rfl ?_
              refine g_imul C dX11_laysSends_107 ?_
              refine g_iload_n C dX11_laysSends_108 rfl 2 rfl ?_
              refine g_bipush (v := (-4 : Int32)) C dX11_laysSends_109 (by decide) ?_
              have J81 : ∀ (s0_81 : Int32), ((vp_in ((8 : Int32) * x1_2) 48 ∧ wp_X11_laysSends_L12 Q h0 post n12 (sti (sti (sti I_2 (rq Q h0 10) x1_2.toNatClampNeg (0 : Int32)) (rq Q h0 10) x1_2.toNatClampNeg s0_78) (rq Q h0 11) ((8 : Int32) * x1_2).toNatClampNeg s0_81) (x1_2 + (1 : Int32)))) → WF Z N T Q → GG p l e ({ frames := 5, cells := 0, slots := 0, locals := 117 }) s m [.ref (ad h0)].toArray below meth c 5 A D D2 0 0 (MQ below (va_Qv (fun (u : KS) => post u.1 ∧ u.2.1 = J ∧ u.2.2 = Q ∧ WF Z N T u.2.2) (Bw D D2 ad N T) A) [.ref (ad h0)].toArray s 0 0 A) ad N T (sti (sti I_2 (rq Q h0 10) x1_2.toNatClampNeg (0 : Int32)) (rq Q h0 10) x1_2.toNatClampNeg s0_78) J Q 121 [(0, .ref (ad h0)), (1, .int x1_2)] [.int s0_81, .int ((8 : Int32) * x1_2), .ref (ad (rq Q h0 11))] := by
                intro s0_81 hw hWF
                refine g_iast C dX11_laysSends_121 zz79 hw.1 ?_
                have hw := hw.2
                refine g_goto C dX11_laysSends_122 (tgt := 224) (by decide) ?_
                refine g_iinc (v := (x1_2 + (1 : Int32))) (lv' := [(1, .int (x1_2 + (1 : Int32))), (0, .ref (ad h0))]) C dX11_laysSends_224 (q := 1) rfl rfl (by decide) rfl ?_
                refine g_goto C dX11_laysSends_227 (tgt := 12) (by decide) ?_
                refine g_sub [1, 0] rfl ?_
                exact ih_u43 (sti (sti (sti I_2 (rq Q h0 10) x1_2.toNatClampNeg (0 : Int32)) (rq Q h0 10) x1_2.toNatClampNeg s0_78) (rq Q h0 11) ((8 : Int32) * x1_2).toNatClampNeg s0_81) (x1_2 + (1 : Int32)) hw hWF
              refine g_icmp_ne (tgt := 118) C dX11_laysSends_111 (by decide) (fun c80 => ?_) (fun c80 => ?_)
              · have hw := hw.1 c80
                refine g_iconst (v := (1 : Int32)) C dX11_laysSends_118 (by decide) ?_
                refine g_iload_n C dX11_laysSends_119 rfl 2 rfl ?_
                refine g_ishl C dX11_laysSends_120 ?_
                refine g_sub [0, 1] rfl ?_
                exact J81 ((1 : Int32) <<< (s0_50 &&& 31)) hw hWF
              · have hw := hw.2 c80
                refine g_iconst (v := (0 : Int32)) C dX11_laysSends_114 (by decide) ?_
                refine g_goto C dX11_laysSends_115 (tgt := 121) (by decide) ?_
                refine g_sub [0, 1] rfl ?_
                exact J81 (0 : Int32) hw hWF
            refine g_icmp_ne (tgt := 98) C dX11_laysSends_91 (by decide) (fun c77 => ?_) (fun c77 => ?_)
            · have hw := hw.1 c77
              refine g_iconst (v := (1 : Int32)) C dX11_laysSends_98 (by decide) ?_
              refine g_sub [1, 2, 0] rfl ?_
              exact J78 (1 : Int32) hw hWF
            · have hw := hw.2 c77
              refine g_iconst (v := (0 : Int32)) C dX11_laysSends_94 (by decide) ?_
              refine g_goto C dX11_laysSends_95 (tgt := 99) (by decide) ?_
              refine g_sub [1, 2, 0] rfl ?_
              exact J78 (0 : Int32) hw hWF
        refine g_if_ne (tgt := 45) C dX11_laysSends_34 (by decide) (fun c49 => ?_) (fun c49 => ?_)
        · have hw := hw.1 c49
          refine g_aload_n C dX11_laysSends_45 rfl 1 rfl ?_
          refine g_getQ C dX11_laysSends_46 ft_363 z0 (hWF.q z0 0 rfl) ?_
          have zz51 := hWF.r z0 0 rfl
          refine g_iconst (v := (2 : Int32)) C dX11_laysSends_49 (by decide) ?_
          refine g_iald C dX11_laysSends_50 zz51 (vp_lit (by decide +kernel)) ?_
          refine g_iconst (v := (1 : Int32)) C dX11_laysSends_51 (by decide) ?_
          refine g_icmp_ne (tgt := 63) C dX11_laysSends_52 (by decide) (fun c52 => ?_) (fun c52 => ?_)
          · have hw := hw.1 c52
            refine g_bipush (v := (-4 : Int32)) C dX11_laysSends_63 (by decide) ?_
            refine g_sub [1, 2, 0] rfl ?_
            exact J50 (-4 : Int32) hw hWF
          · have hw := hw.2 c52
            refine g_aload_n C dX11_laysSends_55 rfl 1 rfl ?_
            refine g_iload_n C dX11_laysSends_56 rfl 2 rfl ?_
            refine g_callVi (As := [.int x1_2]) C dX11_laysSends_57 ft_387 z0 ft_413 ft_414 (met_X11_turnOf l hWF z0 hw) ⟨rfl, rfl, Nat.le_of_ble_eq_true rfl, Nat.le_of_ble_eq_true rfl⟩ ⟨Nat.zero_le _, Nat.zero_le _⟩ rfl rfl (Nat.le_of_ble_eq_true rfl) (fun r53 I53 J53 Q53 hp => ?_)
            obtain ⟨hw, eI, eJ, eQ, hWF⟩ := hp
            have eI : I_2 = I53 := Eq.symm eI
            subst eI
            have eJ : J = J53 := Eq.symm eJ
            subst eJ
            have eQ : Q = Q53 := Eq.symm eQ
            subst eQ
            try dsimp only at hw hWF
            refine g_goto C dX11_laysSends_60 (tgt := 65) (by decide) ?_
            refine g_sub [1, 2, 0] rfl ?_
            exact J50 r53 hw hWF
        · have hw := hw.2 c49
          refine g_aload_n C dX11_laysSends_37 rfl 1 rfl ?_
          refine g_iload_n C dX11_laysSends_38 rfl 2 rfl ?_
          refine g_callVi (As := [.int x1_2]) C dX11_laysSends_39 ft_387 z0 ft_415 ft_416 (met_X11_leastOf l hWF z0 hw) ⟨rfl, rfl, Nat.le_of_ble_eq_true rfl, Nat.le_of_ble_eq_true rfl⟩ ⟨Nat.zero_le _, Nat.zero_le _⟩ rfl rfl (Nat.le_of_ble_eq_true rfl) (fun r54 I54 J54 Q54 hp => ?_)
          obtain ⟨hw, eI, eJ, eQ, hWF⟩ := hp
          have eI : I_2 = I54 := Eq.symm eI
          subst eI
          have eJ : J = J54 := Eq.symm eJ
          subst eJ
          have eQ : Q = Q54 := Eq.symm eQ
          subst eQ
          try dsimp only at hw hWF
          refine g_goto C dX11_laysSends_42 (tgt := 65) (by decide) ?_
          refine g_sub [1, 2, 0] rfl ?_
          exact J50 r54 hw hWF
  obtain ⟨n_u43, hw⟩ := hw
  refine g_sub [1, 0] rfl ?_
  exact L12_u43 n_u43 (sti I h0 12 (I (rq Q h0 0) (5 : Int32).toNatClampNeg)) (0 : Int32) hw hWF
def wp_X11_hears_L15 (Qf_4 : KQ) (f0_4 : Nat) (f1_4 : Int32) (f2_4 : Int32) (f3_4 : Int32) (k57 : KI → Prop) : Nat → KI → Int32 → Prop
  | 0, _, _ => False
  | n15 + 1, I_4, x4_4 => (vp_in f3_4 6 ∧ (((I_4 (rq Qf_4 f0_4 10) f3_4.toNatClampNeg) ≤ x4_4 → k57 I_4) ∧ (¬ (I_4 (rq Qf_4 f0_4 10) f3_4.toNatClampNeg) ≤ x4_4 → wp_X11_has f2_4 f3_4 (fun r7 => ((r7 = 0 → k57 I_4) ∧ (¬ r7 = 0 → (vp_in (((8 : Int32) * f3_4) + x4_4) 48 ∧ wp_X11_learns I_4 Qf_4 f0_4 f1_4 (I_4 (rq Qf_4 f0_4 11) (((8 : Int32) * f3_4) + x4_4).toNatClampNeg) (fun I10 => wp_X11_hears_L15 Qf_4 f0_4 f1_4 f2_4 f3_4 k57 n15 I10 (x4_4 + (1 : Int32))))))))))
def wp_X11_hears_L2 (Qf_1 : KQ) (f0_1 : Nat) (f1_1 : Int32) (f2_1 : Int32) (post : KI → Prop) : Nat → KI → Int32 → Prop
  | 0, _, _ => False
  | n2 + 1, I_1, x3_1 => (((I_1 (rq Qf_1 f0_1 0) (0 : Int32).toNatClampNeg) ≤ x3_1 → post I_1) ∧ (¬ (I_1 (rq Qf_1 f0_1 0) (0 : Int32).toNatClampNeg) ≤ x3_1 → (∃ q15, wp_X11_hears_L15 Qf_1 f0_1 f1_1 f2_1 x3_1 (fun I_12 => wp_X11_hears_L2 Qf_1 f0_1 f1_1 f2_1 post n2 I_12 (x3_1 + (1 : Int32))) q15 I_1 (0 : Int32))))
def wp_X11_hears (I : KI) (Q : KQ) (h0 : Nat) (x1 : Int32) (x2 : Int32) (post : KI → Prop) : Prop := (∃ q2, wp_X11_hears_L2 Q h0 x1 x2 post q2 I (0 : Int32))
set_option maxHeartbeats 4000000 in
set_option maxRecDepth 100000 in
theorem met_X11_hears {Z : Nat → Prop} {A : Nat → Prop} {D : va_G} {D2 : Nat → ClassId} {ad : Nat → Nat} {N : Nat} {T : Nat → Nat × Nat} (l : Launch) {I : KI} {J : KJ} {Q : KQ} {h0 : Nat} {x1 : Int32} {x2 : Int32} {post : KI → Prop} (hWF : WF Z N T Q) (z0 : OKr Z N T h0 (11, 0)) (hw : wp_X11_hears I Q h0 x1 x2 post) : Met l yX11_hears (.code yX11_hears cX11_hears 5 none :: BIG) ({ frames := 3, cells := 0, slots := 0, locals := 66 }) (Pr D D2 A ad N T I J Q [.ref (ad h0), .int x1, .int x2]) (va_Qv (fun (u : KS) => post u.1 ∧ u.2.1 = J ∧ u.2.2 = Q ∧ WF Z N T u.2.2) (Bw D D2 ad N T) A) 0 0 A := by
  refine Met_GG (lv0 := [(0, .ref (ad h0)), (1, .int x1), (2, .int x2)]) (by decide +kernel) [.ref (ad h0), .int x1, .int x2] (Nat.le_of_ble_eq_true rfl) rfl ?_
  intro p e s m below meth c C hr
  have C : CX p s m [.ref (ad h0), .int x1, .int x2].toArray meth c cX11_hears 5 RX11 A D D2 := C
  unfold wp_X11_hears at hw
  refine g_iconst (v := (0 : Int32)) C dX11_hears_0 (by decide) ?_
  refine g_istore_n (lv' := [(3, .int (0 : Int32)), (0, .ref (ad h0)), (1, .int x1), (2, .int x2)]) C dX11_hears_1 rfl (by decide) rfl ?_
  have L2_u20 : ∀ (n2 : Nat) (I_1 : KI) (x3_1 : Int32), wp_X11_hears_L2 Q h0 x1 x2 post n2 I_1 x3_1 → WF Z N T Q → GG p l e ({ frames := 3, cells := 0, slots := 0, locals := 66 }) s m [.ref (ad h0), .int x1, .int x2].toArray below meth c 5 A D D2 0 0 (MQ below (va_Qv (fun (u : KS) => post u.1 ∧ u.2.1 = J ∧ u.2.2 = Q ∧ WF Z N T u.2.2) (Bw D D2 ad N T) A) [.ref (ad h0), .int x1, .int x2].toArray s 0 0 A) ad N T I_1 J Q 2 [(0, .ref (ad h0)), (1, .int x1), (2, .int x2), (3, .int x3_1)] [] := by
    intro n2
    induction n2 with
    | zero => intro I_1 x3_1 hw; exact hw.elim
    | succ n2 ih_u20 =>
      intro I_1 x3_1 hw hWF
      unfold wp_X11_hears_L2 at hw
      refine g_iload_n C dX11_hears_2 rfl 3 rfl ?_
      refine g_aload_n C dX11_hears_3 rfl 0 rfl ?_
      refine g_getQ C dX11_hears_4 ft_363 z0 (hWF.q z0 0 rfl) ?_
      have zz22 := hWF.r z0 0 rfl
      refine g_iconst (v := (0 : Int32)) C dX11_hears_7 (by decide) ?_
      refine g_iald C dX11_hears_8 zz22 (vp_lit (by decide +kernel)) ?_
      refine g_icmp_ge (tgt := 63) C dX11_hears_9 (by decide) (fun c23 => ?_) (fun c23 => ?_)
      · have hw := hw.1 c23
        exact g_vret C dX11_hears_63 hr ⟨hw, rfl, rfl, hWF⟩
      · have hw := hw.2 c23
        refine g_iconst (v := (0 : Int32)) C dX11_hears_12 (by decide) ?_
        refine g_istore (lv' := [(4, .int (0 : Int32)), (0, .ref (ad h0)), (1, .int x1), (2, .int x2), (3, .int x3_1)]) C dX11_hears_13 (by decide) rfl ?_
        have K57_u25 : ∀ (I_26 : KI), (wp_X11_hears_L2 Q h0 x1 x2 post n2 I_26 (x3_1 + (1 : Int32))) → WF Z N T Q → GG p l e ({ frames := 3, cells := 0, slots := 0, locals := 66 }) s m [.ref (ad h0), .int x1, .int x2].toArray below meth c 5 A D D2 0 0 (MQ below (va_Qv (fun (u : KS) => post u.1 ∧ u.2.1 = J ∧ u.2.2 = Q ∧ WF Z N T u.2.2) (Bw D D2 ad N T) A) [.ref (ad h0), .int x1, .int x2].toArray s 0 0 A) ad N T I_26 J Q 57 [(0, .ref (ad h0)), (1, .int x1), (2, .int x2), (3, .int x3_1)] [] := by
          intro I_26 hw hWF
          refine g_iinc (v := (x3_1 + (1 : Int32))) (lv' := [(3, .int (x3_1 + (1 : Int32))), (0, .ref (ad h0)), (1, .int x1), (2, .int x2)]) C dX11_hears_57 (q := 3) rfl rfl (by decide) rfl ?_
          refine g_goto C dX11_hears_60 (tgt := 2) (by decide) ?_
          refine g_sub [1, 2, 3, 0] rfl ?_
          exact ih_u20 I_26 (x3_1 + (1 : Int32)) hw hWF
        have L15_u25 : ∀ (n15 : Nat) (I_4 : KI) (x4_4 : Int32), wp_X11_hears_L15 Q h0 x1 x2 x3_1 (fun I_26 => wp_X11_hears_L2 Q h0 x1 x2 post n2 I_26 (x3_1 + (1 : Int32))) n15 I_4 x4_4 → WF Z N T Q → GG p l e ({ frames := 3, cells := 0, slots := 0, locals := 66 }) s m [.ref (ad h0), .int x1, .int x2].toArray below meth c 5 A D D2 0 0 (MQ below (va_Qv (fun (u : KS) => post u.1 ∧ u.2.1 = J ∧ u.2.2 = Q ∧ WF Z N T u.2.2) (Bw D D2 ad N T) A) [.ref (ad h0), .int x1, .int x2].toArray s 0 0 A) ad N T I_4 J Q 15 [(0, .ref (ad h0)), (1, .int x1), (2, .int x2), (3, .int x3_1), (4, .int x4_4)] [] := by
          intro n15
          induction n15 with
          | zero => intro I_4 x4_4 hw; exact hw.elim
          | succ n15 ih_u25 =>
            intro I_4 x4_4 hw hWF
            unfold wp_X11_hears_L15 at hw
            refine g_iload C dX11_hears_15 4 rfl ?_
            refine g_aload_n C dX11_hears_17 rfl 0 rfl ?_
            refine g_getQ C dX11_hears_18 ft_417 z0 (hWF.q z0 10 rfl) ?_
            have zz28 := hWF.r z0 10 rfl
            refine g_iload_n C dX11_hears_21 rfl 3 rfl ?_
            refine g_iald C dX11_hears_22 zz28 hw.1 ?_
            have hw := hw.2
            refine g_icmp_ge (tgt := 57) C dX11_hears_23 (by decide) (fun c29 => ?_) (fun c29 => ?_)
            · have hw := hw.1 c29
              refine g_sub [0, 1, 2, 3] rfl ?_
              exact K57_u25 I_4 hw hWF
            · have hw := hw.2 c29
              refine g_iload_n C dX11_hears_26 rfl 2 rfl ?_
              refine g_iload_n C dX11_hears_27 rfl 3 rfl ?_
              refine g_callSi (As := [.int x2, .int x3_1]) C dX11_hears_28 ft_381 ft_382 (met_X11_has l hWF  hw) ⟨rfl, rfl, Nat.le_of_ble_eq_true rfl, Nat.le_of_ble_eq_true rfl⟩ ⟨Nat.zero_le _, Nat.zero_le _⟩ rfl rfl (Nat.le_of_ble_eq_true rfl) (fun r30 I30 J30 Q30 hp => ?_)
              obtain ⟨hw, eI, eJ, eQ, hWF⟩ := hp
              have eI : I_4 = I30 := Eq.symm eI
              subst eI
              have eJ : J = J30 := Eq.symm eJ
              subst eJ
              have eQ : Q = Q30 := Eq.symm eQ
              subst eQ
              try dsimp only at hw hWF
              refine g_if_eq (tgt := 57) C dX11_hears_31 (by decide) (fun c31 => ?_) (fun c31 => ?_)
              · have hw := hw.1 c31
                refine g_sub [0, 1, 2, 3] rfl ?_
                exact K57_u25 I_4 hw hWF
              · have hw := hw.2 c31
                refine g_aload_n C dX11_hears_34 rfl 0 rfl ?_
                refine g_iload_n C dX11_hears_35 rfl 1 rfl ?_
                refine g_aload_n C dX11_hears_36 rfl 0 rfl ?_
                refine g_getQ C dX11_hears_37 ft_418 z0 (hWF.q z0 11 rfl) ?_
                have zz32 := hWF.r z0 11 rfl
                refine g_bipush (v := (8 : Int32)) C dX11_hears_40 (by decide) ?_
                refine g_iload_n C dX11_hears_42 rfl 3 rfl ?_
                refine g_imul C dX11_hears_43 ?_
                refine g_iload C dX11_hears_44 4 rfl ?_
                refine g_iadd C dX11_hears_46 ?_
                refine g_iald C dX11_hears_47 zz32 hw.1 ?_
                have hw := hw.2
                refine g_callVv (As := [.int x1, .int (I_4 (rq Q h0 11) (((8 : Int32) * x3_1) + x4_4).toNatClampNeg)]) C dX11_hears_48 ft_387 z0 ft_421 ft_422 (met_X11_learns l hWF z0 hw) ⟨rfl, rfl, Nat.le_of_ble_eq_true rfl, Nat.le_of_ble_eq_true rfl⟩ ⟨Nat.zero_le _, Nat.zero_le _⟩ rfl rfl (Nat.le_of_ble_eq_true rfl) (fun I33 J33 Q33 hp => ?_)
                obtain ⟨hw, eJ, eQ, hWF⟩ := hp
                have eJ : J = J33 := Eq.symm eJ
                subst eJ
                have eQ : Q = Q33 := Eq.symm eQ
                subst eQ
                try dsimp only at hw hWF
                refine g_iinc (v := (x4_4 + (1 : Int32))) (lv' := [(4, .int (x4_4 + (1 : Int32))), (0, .ref (ad h0)), (1, .int x1), (2, .int x2), (3, .int x3_1)]) C dX11_hears_51 (q := 4) rfl rfl (by decide) rfl ?_
                refine g_goto C dX11_hears_54 (tgt := 15) (by decide) ?_
                refine g_sub [1, 2, 3, 4, 0] rfl ?_
                exact ih_u25 I33 (x4_4 + (1 : Int32)) hw hWF
        obtain ⟨n_u25, hw⟩ := hw
        refine g_sub [1, 2, 3, 4, 0] rfl ?_
        exact L15_u25 n_u25 I_1 (0 : Int32) hw hWF
  obtain ⟨n_u20, hw⟩ := hw
  refine g_sub [1, 2, 3, 0] rfl ?_
  exact L2_u20 n_u20 I (0 : Int32) hw hWF
def wp_X11_growth (I : KI) (Q : KQ) (h0 : Nat) (x1 : Int32) (x2 : Int32) (post : Int32 → KI → Prop) : Prop := wp_X11_rank I Q h0 x1 (fun r1 => wp_X11_copies I (rq Q h0 0) 69 ((21 : Int32) + ((8 : Int32) * x1)) (rq Q h0 13) 8 (0 : Int32) (8 : Int32) (fun I4 => wp_X11_hears I4 Q h0 x1 x2 (fun I5 => wp_X11_rank I5 Q h0 x1 (fun r6 => wp_X11_copies I5 (rq Q h0 13) 8 (0 : Int32) (rq Q h0 0) 69 ((21 : Int32) + ((8 : Int32) * x1)) (8 : Int32) (fun I9 => post (r6 - r1) I9)))))
set_option maxHeartbeats 4000000 in
set_option maxRecDepth 100000 in
theorem met_X11_growth {Z : Nat → Prop} {A : Nat → Prop} {D : va_G} {D2 : Nat → ClassId} {ad : Nat → Nat} {N : Nat} {T : Nat → Nat × Nat} (l : Launch) {I : KI} {J : KJ} {Q : KQ} {h0 : Nat} {x1 : Int32} {x2 : Int32} {post : Int32 → KI → Prop} (hWF : WF Z N T Q) (z0 : OKr Z N T h0 (11, 0)) (hw : wp_X11_growth I Q h0 x1 x2 post) : Met l yX11_growth (.code yX11_growth cX11_growth 5 (some .int) :: BIG) ({ frames := 4, cells := 0, slots := 0, locals := 90 }) (Pr D D2 A ad N T I J Q [.ref (ad h0), .int x1, .int x2]) (va_Qi (fun (r : Int32) (u : KS) => post r u.1 ∧ u.2.1 = J ∧ u.2.2 = Q ∧ WF Z N T u.2.2) (Bw D D2 ad N T) A) 0 0 A := by
  refine Met_GG (lv0 := [(0, .ref (ad h0)), (1, .int x1), (2, .int x2)]) (by decide +kernel) [.ref (ad h0), .int x1, .int x2] (Nat.le_of_ble_eq_true rfl) rfl ?_
  intro p e s m below meth c C hr
  have C : CX p s m [.ref (ad h0), .int x1, .int x2].toArray meth c cX11_growth 5 RX11 A D D2 := C
  unfold wp_X11_growth at hw
  refine g_aload_n C dX11_growth_0 rfl 0 rfl ?_
  refine g_iload_n C dX11_growth_1 rfl 1 rfl ?_
  refine g_callVi (As := [.int x1]) C dX11_growth_2 ft_387 z0 ft_399 ft_400 (met_X11_rank l hWF z0 hw) ⟨rfl, rfl, Nat.le_of_ble_eq_true rfl, Nat.le_of_ble_eq_true rfl⟩ ⟨Nat.zero_le _, Nat.zero_le _⟩ rfl rfl (Nat.le_of_ble_eq_true rfl) (fun r1 I1 J1 Q1 hp => ?_)
  obtain ⟨hw, eI, eJ, eQ, hWF⟩ := hp
  have eI : I = I1 := Eq.symm eI
  subst eI
  have eJ : J = J1 := Eq.symm eJ
  subst eJ
  have eQ : Q = Q1 := Eq.symm eQ
  subst eQ
  try dsimp only at hw hWF
  refine g_istore_n (lv' := [(3, .int r1), (0, .ref (ad h0)), (1, .int x1), (2, .int x2)]) C dX11_growth_5 rfl (by decide) rfl ?_
  refine g_aload_n C dX11_growth_6 rfl 1 rfl ?_
  refine g_getQ C dX11_growth_7 ft_363 z0 (hWF.q z0 0 rfl) ?_
  have zz2 := hWF.r z0 0 rfl
  refine g_bipush (v := (21 : Int32)) C dX11_growth_10 (by decide) ?_
  refine g_bipush (v := (8 : Int32)) C dX11_growth_12 (by decide) ?_
  refine g_iload_n C dX11_growth_14 rfl 2 rfl ?_
  refine g_imul C dX11_growth_15 ?_
  refine g_iadd C dX11_growth_16 ?_
  refine g_aload_n C dX11_growth_17 rfl 1 rfl ?_
  refine g_getQ C dX11_growth_18 ft_423 z0 (hWF.q z0 13 rfl) ?_
  have zz3 := hWF.r z0 13 rfl
  refine g_iconst (v := (0 : Int32)) C dX11_growth_21 (by decide) ?_
  refine g_bipush (v := (8 : Int32)) C dX11_growth_22 (by decide) ?_
  refine g_callSv (As := [.ref (ad (rq Q h0 0)), .int ((21 : Int32) + ((8 : Int32) * x1)), .ref (ad (rq Q h0 13)), .int (0 : Int32), .int (8 : Int32)]) C dX11_growth_24 ft_372 ft_373 (met_X11_copies l hWF zz2 zz3 hw) ⟨rfl, rfl, Nat.le_of_ble_eq_true rfl, Nat.le_of_ble_eq_true rfl⟩ ⟨Nat.zero_le _, Nat.zero_le _⟩ rfl rfl (Nat.le_of_ble_eq_true rfl) (fun I4 J4 Q4 hp => ?_)
  obtain ⟨hw, eJ, eQ, hWF⟩ := hp
  have eJ : J = J4 := Eq.symm eJ
  subst eJ
  have eQ : Q = Q4 := Eq.symm eQ
  subst eQ
  try dsimp only at hw hWF
  refine g_aload_n C dX11_growth_27 rfl 1 rfl ?_
  refine g_iload_n C dX11_growth_28 rfl 2 rfl ?_
  refine g_iload_n C dX11_growth_29 rfl 3 rfl ?_
  refine g_callVv (As := [.int x1, .int x2]) C dX11_growth_30 ft_387 z0 ft_424 ft_425 (met_X11_hears l hWF z0 hw) ⟨rfl, rfl, Nat.le_of_ble_eq_true rfl, Nat.le_of_ble_eq_true rfl⟩ ⟨Nat.zero_le _, Nat.zero_le _⟩ rfl rfl (Nat.le_of_ble_eq_true rfl) (fun I5 J5 Q5 hp => ?_)
  obtain ⟨hw, eJ, eQ, hWF⟩ := hp
  have eJ : J = J5 := Eq.symm eJ
  subst eJ
  have eQ : Q = Q5 := Eq.symm eQ
  subst eQ
  try dsimp only at hw hWF
  refine g_aload_n C dX11_growth_33 rfl 1 rfl ?_
  refine g_iload_n C dX11_growth_34 rfl 2 rfl ?_
  refine g_callVi (As := [.int x1]) C dX11_growth_35 ft_387 z0 ft_399 ft_400 (met_X11_rank l hWF z0 hw) ⟨rfl, rfl, Nat.le_of_ble_eq_true rfl, Nat.le_of_ble_eq_true rfl⟩ ⟨Nat.zero_le _, Nat.zero_le _⟩ rfl rfl (Nat.le_of_ble_eq_true rfl) (fun r6 I6 J6 Q6 hp => ?_)
  obtain ⟨hw, eI, eJ, eQ, hWF⟩ := hp
  have eI : I5 = I6 := Eq.symm eI
  subst eI
  have eJ : J = J6 := Eq.symm eJ
  subst eJ
  have eQ : Q = Q6 := Eq.symm eQ
  subst eQ
  try dsimp only at hw hWF
  refine g_istore (lv' := [(4, .int r6), (3, .int r1), (0, .ref (ad h0)), (1, .int x1), (2, .int x2)]) C dX11_growth_38 (by decide) rfl ?_
  refine g_aload_n C dX11_growth_40 rfl 2 rfl ?_
  refine g_getQ C dX11_growth_41 ft_423 z0 (hWF.q z0 13 rfl) ?_
  have zz7 := hWF.r z0 13 rfl
  refine g_iconst (v := (0 : Int32)) C dX11_growth_44 (by decide) ?_
  refine g_aload_n C dX11_growth_45 rfl 2 rfl ?_
  refine g_getQ C dX11_growth_46 ft_363 z0 (hWF.q z0 0 rfl) ?_
  have zz8 := hWF.r z0 0 rfl
  refine g_bipush (v := (21 : Int32)) C dX11_growth_49 (by decide) ?_
  refine g_bipush (v := (8 : Int32)) C dX11_growth_51 (by decide) ?_
  refine g_iload_n C dX11_growth_53 rfl 3 rfl ?_
  refine g_imul C dX11_growth_54 ?_
  refine g_iadd C dX11_growth_55 ?_
  refine g_bipush (v := (8 : Int32)) C dX11_growth_56 (by decide) ?_
  refine g_callSv (As := [.ref (ad (rq Q h0 13)), .int (0 : Int32), .ref (ad (rq Q h0 0)), .int ((21 : Int32) + ((8 : Int32) * x1)), .int (8 : Int32)]) C dX11_growth_58 ft_372 ft_373 (met_X11_copies l hWF zz7 zz8 hw) ⟨rfl, rfl, Nat.le_of_ble_eq_true rfl, Nat.le_of_ble_eq_true rfl⟩ ⟨Nat.zero_le _, Nat.zero_le _⟩ rfl rfl (Nat.le_of_ble_eq_true rfl) (fun I9 J9 Q9 hp => ?_)
  obtain ⟨hw, eJ, eQ, hWF⟩ := hp
  have eJ : J = J9 := Eq.symm eJ
  subst eJ
  have eQ : Q = Q9 := Eq.symm eQ
  subst eQ
  try dsimp only at hw hWF
  refine g_iload C dX11_growth_61 0 rfl ?_
  refine g_iload_n C dX11_growth_63 rfl 1 rfl ?_
  refine g_isub C dX11_growth_64 ?_
  exact g_iret C dX11_growth_65 hr ⟨hw, rfl, rfl, hWF⟩
def wp_X11_goes_L11 (Qf_3 : KQ) (f0_3 : Nat) (f1_3 : Int32) (post : KI → Prop) : Nat → KI → Int32 → Prop
  | 0, _, _ => False
  | n11 + 1, I_3, x2_3 => (((I_3 (rq Qf_3 f0_3 0) (0 : Int32).toNatClampNeg) ≤ x2_3 → post (sti (sti I_3 (rq Qf_3 f0_3 0) (5 : Int32).toNatClampNeg (I_3 f0_3 12)) (rq Qf_3 f0_3 0) (4 : Int32).toNatClampNeg (((sti I_3 (rq Qf_3 f0_3 0) (5 : Int32).toNatClampNeg (I_3 f0_3 12)) (rq Qf_3 f0_3 0) (4 : Int32).toNatClampNeg) + (1 : Int32)))) ∧ (¬ (I_3 (rq Qf_3 f0_3 0) (0 : Int32).toNatClampNeg) ≤ x2_3 → wp_X11_linkedBy f1_3 x2_3 (I_3 (rq Qf_3 f0_3 0) (0 : Int32).toNatClampNeg) (0 : Int32) (fun r9 => wp_X11_hears I_3 Qf_3 f0_3 x2_3 r9 (fun I10 => (vp_in ((15 : Int32) + x2_3) 69 ∧ ((¬ (I10 (rq Qf_3 f0_3 0) (2 : Int32).toNatClampNeg) = 0 → (vp_in ((15 : Int32) + x2_3) 69 ∧ wp_X11_goes_L11 Qf_3 f0_3 f1_3 post n11 (sti I10 (rq Qf_3 f0_3 0) ((15 : Int32) + x2_3).toNatClampNeg ((I10 (rq Qf_3 f0_3 0) ((15 : Int32) + x2_3).toNatClampNeg) ||| (0 : Int32))) (x2_3 + (1 : Int32)))) ∧ ((I10 (rq Qf_3 f0_3 0) (2 : Int32).toNatClampNeg) = 0 → (vp_in x2_3 6 ∧ (((I10 (rq Qf_3 f0_3 10) x2_3.toNatClampNeg) ≤ 0 → (vp_in ((15 : Int32) + x2_3) 69 ∧ wp_X11_goes_L11 Qf_3 f0_3 f1_3 post n11 (sti I10 (rq Qf_3 f0_3 0) ((15 : Int32) + x2_3).toNatClampNeg ((I10 (rq Qf_3 f0_3 0) ((15 : Int32) + x2_3).toNatClampNeg) ||| (0 : Int32))) (x2_3 + (1 : Int32)))) ∧ (¬ (I10 (rq Qf_3 f0_3 10) x2_3.toNatClampNeg) ≤ 0 → (vp_in ((8 : Int32) * x2_3) 48 ∧ (vp_in ((15 : Int32) + x2_3) 69 ∧ wp_X11_goes_L11 Qf_3 f0_3 f1_3 post n11 (sti I10 (rq Qf_3 f0_3 0) ((15 : Int32) + x2_3).toNatClampNeg ((I10 (rq Qf_3 f0_3 0) ((15 : Int32) + x2_3).toNatClampNeg) ||| (I10 (rq Qf_3 f0_3 11) ((8 : Int32) * x2_3).toNatClampNeg))) (x2_3 + (1 : Int32))))))))))))))
def wp_X11_goes (I : KI) (Q : KQ) (h0 : Nat) (post : KI → Prop) : Prop := wp_X11_laysSends I Q h0 (fun I1 => wp_X11_present I1 Q h0 (fun r2 => (∃ q11, wp_X11_goes_L11 Q h0 r2 post q11 I1 (0 : Int32))))
set_option maxHeartbeats 4000000 in
set_option maxRecDepth 100000 in
theorem met_X11_goes {Z : Nat → Prop} {A : Nat → Prop} {D : va_G} {D2 : Nat → ClassId} {ad : Nat → Nat} {N : Nat} {T : Nat → Nat × Nat} (l : Launch) {I : KI} {J : KJ} {Q : KQ} {h0 : Nat} {post : KI → Prop} (hWF : WF Z N T Q) (z0 : OKr Z N T h0 (11, 0)) (hw : wp_X11_goes I Q h0 post) : Met l yX11_goes (.code yX11_goes cX11_goes 3 none :: BIG) ({ frames := 6, cells := 0, slots := 0, locals := 141 }) (Pr D D2 A ad N T I J Q [.ref (ad h0)]) (va_Qv (fun (u : KS) => post u.1 ∧ u.2.1 = J ∧ u.2.2 = Q ∧ WF Z N T u.2.2) (Bw D D2 ad N T) A) 0 0 A := by
  refine Met_GG (lv0 := [(0, .ref (ad h0))]) (by decide +kernel) [.ref (ad h0)] (Nat.le_of_ble_eq_true rfl) rfl ?_
  intro p e s m below meth c C hr
  have C : CX p s m [.ref (ad h0)].toArray meth c cX11_goes 3 RX11 A D D2 := C
  unfold wp_X11_goes at hw
  refine g_aload_n C dX11_goes_0 rfl 0 rfl ?_
  refine g_callVv (As := []) C dX11_goes_1 ft_387 z0 ft_428 ft_429 (met_X11_laysSends l hWF z0 hw) ⟨rfl, rfl, Nat.le_of_ble_eq_true rfl, Nat.le_of_ble_eq_true rfl⟩ ⟨Nat.zero_le _, Nat.zero_le _⟩ rfl rfl (Nat.le_of_ble_eq_true rfl) (fun I1 J1 Q1 hp => ?_)
  obtain ⟨hw, eJ, eQ, hWF⟩ := hp
  have eJ : J = J1 := Eq.symm eJ
  subst eJ
  have eQ : Q = Q1 := Eq.symm eQ
  subst eQ
  try dsimp only at hw hWF
  refine g_aload_n C dX11_goes_4 rfl 0 rfl ?_
  refine g_callVi (As := []) C dX11_goes_5 ft_387 z0 ft_426 ft_427 (met_X11_present l hWF z0 hw) ⟨rfl, rfl, Nat.le_of_ble_eq_true rfl, Nat.le_of_ble_eq_true rfl⟩ ⟨Nat.zero_le _, Nat.zero_le _⟩ rfl rfl (Nat.le_of_ble_eq_true rfl) (fun r2 I2 J2 Q2 hp => ?_)
  obtain ⟨hw, eI, eJ, eQ, hWF⟩ := hp
  have eI : I1 = I2 := Eq.symm eI
  subst eI
  have eJ : J = J2 := Eq.symm eJ
  subst eJ
  have eQ : Q = Q2 := Eq.symm eQ
  subst eQ
  try dsimp only at hw hWF
  refine g_istore_n (lv' := [(1, .int r2), (0, .ref (ad h0))]) C dX11_goes_8 rfl (by decide) rfl ?_
  refine g_iconst (v := (0 : Int32)) C dX11_goes_9 (by decide) ?_
  refine g_istore_n (lv' := [(2, .int (0 : Int32)), (1, .int r2), (0, .ref (ad h0))]) C dX11_goes_10 rfl (by decide) rfl ?_
  have L11_u17 : ∀ (n11 : Nat) (I_3 : KI) (x2_3 : Int32), wp_X11_goes_L11 Q h0 r2 post n11 I_3 x2_3 → WF Z N T Q → GG p l e ({ frames := 6, cells := 0, slots := 0, locals := 141 }) s m [.ref (ad h0)].toArray below meth c 3 A D D2 0 0 (MQ below (va_Qv (fun (u : KS) => post u.1 ∧ u.2.1 = J ∧ u.2.2 = Q ∧ WF Z N T u.2.2) (Bw D D2 ad N T) A) [.ref (ad h0)].toArray s 0 0 A) ad N T I_3 J Q 11 [(0, .ref (ad h0)), (1, .int r2), (2, .int x2_3)] [] := by
    intro n11
    induction n11 with
    | zero => intro I_3 x2_3 hw; exact hw.elim
    | succ n11 ih_u17 =>
      intro I_3 x2_3 hw hWF
      unfold wp_X11_goes_L11 at hw
      refine g_iload_n C dX11_goes_11 rfl 2 rfl ?_
      refine g_aload_n C dX11_goes_12 rfl 0 rfl ?_
      refine g_getQ C dX11_goes_13 ft_363 z0 (hWF.q z0 0 rfl) ?_
      have zz19 := hWF.r z0 0 rfl
      refine g_iconst (v := (0 : Int32)) C dX11_goes_16 (by decide) ?_
      refine g_iald C dX11_goes_17 zz19 (vp_lit (by decide +kernel)) ?_
      refine g_icmp_ge (tgt := 87) C dX11_goes_18 (by decide) (fun c20 => ?_) (fun c20 => ?_)
      · have hw := hw.1 c20
        refine g_aload_n C dX11_goes_87 rfl 0 rfl ?_
        refine g_getQ C dX11_goes_88 ft_363 z0 (hWF.q z0 0 rfl) ?_
        have zz21 := hWF.r z0 0 rfl
        refine g_iconst (v := (5 : Int32)) C dX11_goes_91 (by decide) ?_
        refine g_aload_n C dX11_goes_92 rfl 0 rfl ?_
        refine g_getI C dX11_goes_93 ft_406 z0 ?_
        refine g_iast C dX11_goes_96 zz21 (vp_lit (by decide +kernel)) ?_
        refine g_aload_n C dX11_goes_97 rfl 0 rfl ?_
        refine g_getQ C dX11_goes_98 ft_363 z0 (hWF.q z0 0 rfl) ?_
        have zz22 := hWF.r z0 0 rfl
        refine g_iconst (v := (4 : Int32)) C dX11_goes_101 (by decide) ?_
        refine g_dup2 C dX11_goes_102 rfl rfl ?_
        refine g_iald C dX11_goes_103 zz22 (vp_lit (by decide +kernel)) ?_
        refine g_iconst (v := (1 : Int32)) C dX11_goes_104 (by decide) ?_
        refine g_iadd C dX11_goes_105 ?_
        refine g_iast C dX11_goes_106 zz22 (vp_lit (by decide +kernel)) ?_
        exact g_vret C dX11_goes_107 hr ⟨hw, rfl, rfl, hWF⟩
      · have hw := hw.2 c20
        refine g_aload_n C dX11_goes_21 rfl 0 rfl ?_
        refine g_iload_n C dX11_goes_22 rfl 2 rfl ?_
        refine g_iload_n C dX11_goes_23 rfl 1 rfl ?_
        refine g_iload_n C dX11_goes_24 rfl 2 rfl ?_
        refine g_aload_n C dX11_goes_25 rfl 0 rfl ?_
        refine g_getQ C dX11_goes_26 ft_363 z0 (hWF.q z0 0 rfl) ?_
        have zz23 := hWF.r z0 0 rfl
        refine g_iconst (v := (0 : Int32)) C dX11_goes_29 (by decide) ?_
        refine g_iald C dX11_goes_30 zz23 (vp_lit (by decide +kernel)) ?_
        refine g_iconst (v := (0 : Int32)) C dX11_goes_31 (by decide) ?_
        refine g_callSi (As := [.int r2, .int x2_3, .int (I_3 (rq Q h0 0) (0 : Int32).toNatClampNeg), .int (0 : Int32)]) C dX11_goes_32 ft_383 ft_384 (met_X11_linkedBy l hWF  hw) ⟨rfl, rfl, Nat.le_of_ble_eq_true rfl, Nat.le_of_ble_eq_true rfl⟩ ⟨Nat.zero_le _, Nat.zero_le _⟩ rfl rfl (Nat.le_of_ble_eq_true rfl) (fun r24 I24 J24 Q24 hp => ?_)
        obtain ⟨hw, eI, eJ, eQ, hWF⟩ := hp
        have eI : I_3 = I24 := Eq.symm eI
        subst eI
        have eJ : J = J24 := Eq.symm eJ
        subst eJ
        have eQ : Q = Q24 := Eq.symm eQ
        subst eQ
        try dsimp only at hw hWF
        refine g_callVv (As := [.int x2_3, .int r24]) C dX11_goes_35 ft_387 z0 ft_424 ft_425 (met_X11_hears l hWF z0 hw) ⟨rfl, rfl, Nat.le_of_ble_eq_true rfl, Nat.le_of_ble_eq_true rfl⟩ ⟨Nat.zero_le _, Nat.zero_le _⟩ rfl rfl (Nat.le_of_ble_eq_true rfl) (fun I25 J25 Q25 hp => ?_)
        obtain ⟨hw, eJ, eQ, hWF⟩ := hp
        have eJ : J = J25 := Eq.symm eJ
        subst eJ
        have eQ : Q = Q25 := Eq.symm eQ
        subst eQ
        try dsimp only at hw hWF
        refine g_aload_n C dX11_goes_38 rfl 0 rfl ?_
        refine g_getQ C dX11_goes_39 ft_363 z0 (hWF.q z0 0 rfl) ?_
        have zz26 := hWF.r z0 0 rfl
        refine g_bipush (v := (15 : Int32)) C dX11_goes_42 (by decide) ?_
        refine g_iload_n C dX11_goes_44 rfl 2 rfl ?_
        refine g_iadd C dX11_goes_45 ?_
        refine g_dup2 C dX11_goes_46 rfl rfl ?_
        refine g_iald C dX11_goes_47 zz26 hw.1 ?_
        have hw := hw.2
        refine g_aload_n C dX11_goes_48 rfl 0 rfl ?_
        refine g_getQ C dX11_goes_49 ft_363 z0 (hWF.q z0 0 rfl) ?_
        have zz27 := hWF.r z0 0 rfl
        refine g_iconst (v := (2 : Int32)) C dX11_goes_52 (by decide) ?_
        refine g_iald C dX11_goes_53 zz27 (vp_lit (by decide +kernel)) ?_
        refine g_if_ne (tgt := 78) C dX11_goes_54 (by decide) (fun c28 => ?_) (fun c28 => ?_)
        · have hw := hw.1 c28
          refine g_iconst (v := (0 : Int32)) C dX11_goes_78 (by decide) ?_
          refine g_ior C dX11_goes_79 ?_
          refine g_iast C dX11_goes_80 zz26 hw.1 ?_
          have hw := hw.2
          refine g_iinc (v := (x2_3 + (1 : Int32))) (lv' := [(2, .int (x2_3 + (1 : Int32))), (0, .ref (ad h0)), (1, .int r2)]) C dX11_goes_81 (q := 2) rfl rfl (by decide) rfl ?_
          refine g_goto C dX11_goes_84 (tgt := 11) (by decide) ?_
          refine g_sub [1, 2, 0] rfl ?_
          exact ih_u17 (sti I25 (rq Q h0 0) ((15 : Int32) + x2_3).toNatClampNeg ((I25 (rq Q h0 0) ((15 : Int32) + x2_3).toNatClampNeg) ||| (0 : Int32))) (x2_3 + (1 : Int32)) hw hWF
        · have hw := hw.2 c28
          refine g_aload_n C dX11_goes_57 rfl 0 rfl ?_
          refine g_getQ C dX11_goes_58 ft_417 z0 (hWF.q z0 10 rfl) ?_
          have zz29 := hWF.r z0 10 rfl
          refine g_iload_n C dX11_goes_61 rfl 2 rfl ?_
          refine g_iald C dX11_goes_62 zz29 hw.1 ?_
          have hw := hw.2
          refine g_if_le (tgt := 78) C dX11_goes_63 (by decide) (fun c30 => ?_) (fun c30 => ?_)
          · have hw := hw.1 c30
            refine g_iconst (v := (0 : Int32)) C dX11_goes_78 (by decide) ?_
            refine g_ior C dX11_goes_79 ?_
            refine g_iast C dX11_goes_80 zz26 hw.1 ?_
            have hw := hw.2
            refine g_iinc (v := (x2_3 + (1 : Int32))) (lv' := [(2, .int (x2_3 + (1 : Int32))), (0, .ref (ad h0)), (1, .int r2)]) C dX11_goes_81 (q := 2) rfl rfl (by decide) rfl ?_
            refine g_goto C dX11_goes_84 (tgt := 11) (by decide) ?_
            refine g_sub [1, 2, 0] rfl ?_
            exact ih_u17 (sti I25 (rq Q h0 0) ((15 : Int32) + x2_3).toNatClampNeg ((I25 (rq Q h0 0) ((15 : Int32) + x2_3).toNatClampNeg) ||| (0 : Int32))) (x2_3 + (1 : Int32)) hw hWF
          · have hw := hw.2 c30
            refine g_aload_n C dX11_goes_66 rfl 0 rfl ?_
            refine g_getQ C dX11_goes_67 ft_418 z0 (hWF.q z0 11 rfl) ?_
            have zz31 := hWF.r z0 11 rfl
            refine g_bipush (v := (8 : Int32)) C dX11_goes_70 (by decide) ?_
            refine g_iload_n C dX11_goes_72 rfl 2 rfl ?_
            refine g_imul C dX11_goes_73 ?_
            refine g_iald C dX11_goes_74 zz31 hw.1 ?_
            have hw := hw.2
            refine g_goto C dX11_goes_75 (tgt := 79) (by decide) ?_
            refine g_ior C dX11_goes_79 ?_
            refine g_iast C dX11_goes_80 zz26 hw.1 ?_
            have hw := hw.2
            refine g_iinc (v := (x2_3 + (1 : Int32))) (lv' := [(2, .int (x2_3 + (1 : Int32))), (0, .ref (ad h0)), (1, .int r2)]) C dX11_goes_81 (q := 2) rfl rfl (by decide) rfl ?_
            refine g_goto C dX11_goes_84 (tgt := 11) (by decide) ?_
            refine g_sub [1, 2, 0] rfl ?_
            exact ih_u17 (sti I25 (rq Q h0 0) ((15 : Int32) + x2_3).toNatClampNeg ((I25 (rq Q h0 0) ((15 : Int32) + x2_3).toNatClampNeg) ||| (I25 (rq Q h0 11) ((8 : Int32) * x2_3).toNatClampNeg))) (x2_3 + (1 : Int32)) hw hWF
  obtain ⟨n_u17, hw⟩ := hw
  refine g_sub [2, 1, 0] rfl ?_
  exact L11_u17 n_u17 I1 (0 : Int32) hw hWF
def wp_X11_put (I : KI) (Q : KQ) (h0 : Nat) (x1 : Int32) (x2 : Int32) (post : Int32 → KI → Prop) : Prop := wp_X11_isNode I Q h0 x1 (fun r1 => ((r1 = 0 → post (-1 : Int32) I) ∧ (¬ r1 = 0 → ((x2 = 0 → post (-1 : Int32) I) ∧ (¬ x2 = 0 → wp_X11_isSet x2 (I (rq Q h0 0) (1 : Int32).toNatClampNeg) (fun r5 => ((¬ r5 = 0 → wp_X11_isKnown I Q h0 x1 x2 (fun r7 => ((r7 = 0 → wp_X11_remembers I Q h0 (fun I9 => wp_X11_learns I9 Q h0 x1 x2 (fun I10 => wp_X11_rank I10 Q h0 x1 (fun r11 => post r11 I10)))) ∧ (¬ r7 = 0 → post (-2 : Int32) I)))) ∧ (r5 = 0 → post (-1 : Int32) I))))))))
set_option maxHeartbeats 4000000 in
set_option maxRecDepth 100000 in
theorem met_X11_put {Z : Nat → Prop} {A : Nat → Prop} {D : va_G} {D2 : Nat → ClassId} {ad : Nat → Nat} {N : Nat} {T : Nat → Nat × Nat} (l : Launch) {I : KI} {J : KJ} {Q : KQ} {h0 : Nat} {x1 : Int32} {x2 : Int32} {post : Int32 → KI → Prop} (hWF : WF Z N T Q) (z0 : OKr Z N T h0 (11, 0)) (hw : wp_X11_put I Q h0 x1 x2 post) : Met l yX11_put (.code yX11_put cX11_put 3 (some .int) :: BIG) ({ frames := 3, cells := 0, slots := 0, locals := 66 }) (Pr D D2 A ad N T I J Q [.ref (ad h0), .int x1, .int x2]) (va_Qi (fun (r : Int32) (u : KS) => post r u.1 ∧ u.2.1 = J ∧ u.2.2 = Q ∧ WF Z N T u.2.2) (Bw D D2 ad N T) A) 0 0 A := by
  refine Met_GG (lv0 := [(0, .ref (ad h0)), (1, .int x1), (2, .int x2)]) (by decide +kernel) [.ref (ad h0), .int x1, .int x2] (Nat.le_of_ble_eq_true rfl) rfl ?_
  intro p e s m below meth c C hr
  have C : CX p s m [.ref (ad h0), .int x1, .int x2].toArray meth c cX11_put 3 RX11 A D D2 := C
  unfold wp_X11_put at hw
  refine g_aload_n C dX11_put_0 rfl 0 rfl ?_
  refine g_iload_n C dX11_put_1 rfl 1 rfl ?_
  refine g_callVi (As := [.int x1]) C dX11_put_2 ft_387 z0 ft_434 ft_435 (met_X11_isNode l hWF z0 hw) ⟨rfl, rfl, Nat.le_of_ble_eq_true rfl, Nat.le_of_ble_eq_true rfl⟩ ⟨Nat.zero_le _, Nat.zero_le _⟩ rfl rfl (Nat.le_of_ble_eq_true rfl) (fun r1 I1 J1 Q1 hp => ?_)
  obtain ⟨hw, eI, eJ, eQ, hWF⟩ := hp
  have eI : I = I1 := Eq.symm eI
  subst eI
  have eJ : J = J1 := Eq.symm eJ
  subst eJ
  have eQ : Q = Q1 := Eq.symm eQ
  subst eQ
  try dsimp only at hw hWF
  refine g_if_eq (tgt := 25) C dX11_put_5 (by decide) (fun c2 => ?_) (fun c2 => ?_)
  · have hw := hw.1 c2
    refine g_iconst (v := (-1 : Int32)) C dX11_put_25 (by decide) ?_
    exact g_iret C dX11_put_26 hr ⟨hw, rfl, rfl, hWF⟩
  · have hw := hw.2 c2
    refine g_iload_n C dX11_put_8 rfl 2 rfl ?_
    refine g_if_eq (tgt := 25) C dX11_put_9 (by decide) (fun c3 => ?_) (fun c3 => ?_)
    · have hw := hw.1 c3
      refine g_iconst (v := (-1 : Int32)) C dX11_put_25 (by decide) ?_
      exact g_iret C dX11_put_26 hr ⟨hw, rfl, rfl, hWF⟩
    · have hw := hw.2 c3
      refine g_iload_n C dX11_put_12 rfl 2 rfl ?_
      refine g_aload_n C dX11_put_13 rfl 0 rfl ?_
      refine g_getQ C dX11_put_14 ft_363 z0 (hWF.q z0 0 rfl) ?_
      have zz4 := hWF.r z0 0 rfl
      refine g_iconst (v := (1 : Int32)) C dX11_put_17 (by decide) ?_
      refine g_iald C dX11_put_18 zz4 (vp_lit (by decide +kernel)) ?_
      refine g_callSi (As := [.int x2, .int (I (rq Q h0 0) (1 : Int32).toNatClampNeg)]) C dX11_put_19 ft_432 ft_433 (met_X11_isSet l hWF  hw) ⟨rfl, rfl, Nat.le_of_ble_eq_true rfl, Nat.le_of_ble_eq_true rfl⟩ ⟨Nat.zero_le _, Nat.zero_le _⟩ rfl rfl (Nat.le_of_ble_eq_true rfl) (fun r5 I5 J5 Q5 hp => ?_)
      obtain ⟨hw, eI, eJ, eQ, hWF⟩ := hp
      have eI : I = I5 := Eq.symm eI
      subst eI
      have eJ : J = J5 := Eq.symm eJ
      subst eJ
      have eQ : Q = Q5 := Eq.symm eQ
      subst eQ
      try dsimp only at hw hWF
      refine g_if_ne (tgt := 27) C dX11_put_22 (by decide) (fun c6 => ?_) (fun c6 => ?_)
      · have hw := hw.1 c6
        refine g_aload_n C dX11_put_27 rfl 0 rfl ?_
        refine g_iload_n C dX11_put_28 rfl 1 rfl ?_
        refine g_iload_n C dX11_put_29 rfl 2 rfl ?_
        refine g_callVi (As := [.int x1, .int x2]) C dX11_put_30 ft_387 z0 ft_391 ft_392 (met_X11_isKnown l hWF z0 hw) ⟨rfl, rfl, Nat.le_of_ble_eq_true rfl, Nat.le_of_ble_eq_true rfl⟩ ⟨Nat.zero_le _, Nat.zero_le _⟩ rfl rfl (Nat.le_of_ble_eq_true rfl) (fun r7 I7 J7 Q7 hp => ?_)
        obtain ⟨hw, eI, eJ, eQ, hWF⟩ := hp
        have eI : I = I7 := Eq.symm eI
        subst eI
        have eJ : J = J7 := Eq.symm eJ
        subst eJ
        have eQ : Q = Q7 := Eq.symm eQ
        subst eQ
        try dsimp only at hw hWF
        refine g_if_eq (tgt := 39) C dX11_put_33 (by decide) (fun c8 => ?_) (fun c8 => ?_)
        · have hw := hw.1 c8
          refine g_aload_n C dX11_put_39 rfl 0 rfl ?_
          refine g_callVv (As := []) C dX11_put_40 ft_387 z0 ft_430 ft_431 (met_X11_remembers l hWF z0 hw) ⟨rfl, rfl, Nat.le_of_ble_eq_true rfl, Nat.le_of_ble_eq_true rfl⟩ ⟨Nat.zero_le _, Nat.zero_le _⟩ rfl rfl (Nat.le_of_ble_eq_true rfl) (fun I9 J9 Q9 hp => ?_)
          obtain ⟨hw, eJ, eQ, hWF⟩ := hp
          have eJ : J = J9 := Eq.symm eJ
          subst eJ
          have eQ : Q = Q9 := Eq.symm eQ
          subst eQ
          try dsimp only at hw hWF
          refine g_aload_n C dX11_put_43 rfl 0 rfl ?_
          refine g_iload_n C dX11_put_44 rfl 1 rfl ?_
          refine g_iload_n C dX11_put_45 rfl 2 rfl ?_
          refine g_callVv (As := [.int x1, .int x2]) C dX11_put_46 ft_387 z0 ft_421 ft_422 (met_X11_learns l hWF z0 hw) ⟨rfl, rfl, Nat.le_of_ble_eq_true rfl, Nat.le_of_ble_eq_true rfl⟩ ⟨Nat.zero_le _, Nat.zero_le _⟩ rfl rfl (Nat.le_of_ble_eq_true rfl) (fun I10 J10 Q10 hp => ?_)
          obtain ⟨hw, eJ, eQ, hWF⟩ := hp
          have eJ : J = J10 := Eq.symm eJ
          subst eJ
          have eQ : Q = Q10 := Eq.symm eQ
          subst eQ
          try dsimp only at hw hWF
          refine g_aload_n C dX11_put_49 rfl 0 rfl ?_
          refine g_iload_n C dX11_put_50 rfl 1 rfl ?_
          refine g_callVi (As := [.int x1]) C dX11_put_51 ft_387 z0 ft_399 ft_400 (met_X11_rank l hWF z0 hw) ⟨rfl, rfl, Nat.le_of_ble_eq_true rfl, Nat.le_of_ble_eq_true rfl⟩ ⟨Nat.zero_le _, Nat.zero_le _⟩ rfl rfl (Nat.le_of_ble_eq_true rfl) (fun r11 I11 J11 Q11 hp => ?_)
          obtain ⟨hw, eI, eJ, eQ, hWF⟩ := hp
          have eI : I10 = I11 := Eq.symm eI
          subst eI
          have eJ : J = J11 := Eq.symm eJ
          subst eJ
          have eQ : Q = Q11 := Eq.symm eQ
          subst eQ
          try dsimp only at hw hWF
          exact g_iret C dX11_put_54 hr ⟨hw, rfl, rfl, hWF⟩
        · have hw := hw.2 c8
          refine g_bipush (v := (-2 : Int32)) C dX11_put_36 (by decide) ?_
          exact g_iret C dX11_put_38 hr ⟨hw, rfl, rfl, hWF⟩
      · have hw := hw.2 c6
        refine g_iconst (v := (-1 : Int32)) C dX11_put_25 (by decide) ?_
        exact g_iret C dX11_put_26 hr ⟨hw, rfl, rfl, hWF⟩
def wp_X11_node (I : KI) (Q : KQ) (h0 : Nat) (x1 : Int32) (x2 : Int32) (post : Int32 → KI → Prop) : Prop := wp_X11_isNode I Q h0 x1 (fun r1 => ((¬ r1 = 0 → ((x2 = 0 → wp_X11_rank I Q h0 x1 (fun r4 => post r4 I)) ∧ (x2 = 1 → wp_X11_tells I Q h0 x1 (fun r6 => post r6 I)) ∧ (x2 = 2 → (vp_in ((15 : Int32) + x1) 69 ∧ post (I (rq Q h0 0) ((15 : Int32) + x1).toNatClampNeg) I)) ∧ (x2 = 3 → wp_X11_present I Q h0 (fun r10 => wp_X11_linkedBy r10 x1 (I (rq Q h0 0) (0 : Int32).toNatClampNeg) (0 : Int32) (fun r12 => post r12 I))) ∧ (x2 = 4 → wp_X11_laysSends I Q h0 (fun I14 => wp_X11_present I14 Q h0 (fun r15 => wp_X11_linkedBy r15 x1 (I14 (rq Q h0 0) (0 : Int32).toNatClampNeg) (0 : Int32) (fun r17 => wp_X11_growth I14 Q h0 x1 r17 (fun r18 I18 => post r18 I18))))) ∧ (¬ x2 = 0 → ¬ x2 = 1 → ¬ x2 = 2 → ¬ x2 = 3 → ¬ x2 = 4 → post (-1 : Int32) I))) ∧ (r1 = 0 → post (-1 : Int32) I)))
set_option maxHeartbeats 4000000 in
set_option maxRecDepth 100000 in
theorem met_X11_node {Z : Nat → Prop} {A : Nat → Prop} {D : va_G} {D2 : Nat → ClassId} {ad : Nat → Nat} {N : Nat} {T : Nat → Nat × Nat} (l : Launch) {I : KI} {J : KJ} {Q : KQ} {h0 : Nat} {x1 : Int32} {x2 : Int32} {post : Int32 → KI → Prop} (hWF : WF Z N T Q) (z0 : OKr Z N T h0 (11, 0)) (hw : wp_X11_node I Q h0 x1 x2 post) : Met l yX11_node (.code yX11_node cX11_node 3 (some .int) :: BIG) ({ frames := 6, cells := 0, slots := 0, locals := 141 }) (Pr D D2 A ad N T I J Q [.ref (ad h0), .int x1, .int x2]) (va_Qi (fun (r : Int32) (u : KS) => post r u.1 ∧ u.2.1 = J ∧ u.2.2 = Q ∧ WF Z N T u.2.2) (Bw D D2 ad N T) A) 0 0 A := by
  refine Met_GG (lv0 := [(0, .ref (ad h0)), (1, .int x1), (2, .int x2)]) (by decide +kernel) [.ref (ad h0), .int x1, .int x2] (Nat.le_of_ble_eq_true rfl) rfl ?_
  intro p e s m below meth c C hr
  have C : CX p s m [.ref (ad h0), .int x1, .int x2].toArray meth c cX11_node 3 RX11 A D D2 := C
  unfold wp_X11_node at hw
  refine g_aload_n C dX11_node_0 rfl 0 rfl ?_
  refine g_iload_n C dX11_node_1 rfl 1 rfl ?_
  refine g_callVi (As := [.int x1]) C dX11_node_2 ft_387 z0 ft_434 ft_435 (met_X11_isNode l hWF z0 hw) ⟨rfl, rfl, Nat.le_of_ble_eq_true rfl, Nat.le_of_ble_eq_true rfl⟩ ⟨Nat.zero_le _, Nat.zero_le _⟩ rfl rfl (Nat.le_of_ble_eq_true rfl) (fun r1 I1 J1 Q1 hp => ?_)
  obtain ⟨hw, eI, eJ, eQ, hWF⟩ := hp
  have eI : I = I1 := Eq.symm eI
  subst eI
  have eJ : J = J1 := Eq.symm eJ
  subst eJ
  have eQ : Q = Q1 := Eq.symm eQ
  subst eQ
  try dsimp only at hw hWF
  refine g_if_ne (tgt := 10) C dX11_node_5 (by decide) (fun c2 => ?_) (fun c2 => ?_)
  · have hw := hw.1 c2
    refine g_iload_n C dX11_node_10 rfl 2 rfl ?_
    by_cases c3 : x2 = 0
    · have hw := hw.1 c3
      refine g_tableIn (tgt := 44) C dX11_node_11 (by rw [c3]; decide) (by rw [c3]; decide) (by rw [c3]; rfl) (by decide) ?_
      refine g_aload_n C dX11_node_44 rfl 0 rfl ?_
      refine g_iload_n C dX11_node_45 rfl 1 rfl ?_
      refine g_callVi (As := [.int x1]) C dX11_node_46 ft_387 z0 ft_399 ft_400 (met_X11_rank l hWF z0 hw) ⟨rfl, rfl, Nat.le_of_ble_eq_true rfl, Nat.le_of_ble_eq_true rfl⟩ ⟨Nat.zero_le _, Nat.zero_le _⟩ rfl rfl (Nat.le_of_ble_eq_true rfl) (fun r4 I4 J4 Q4 hp => ?_)
      obtain ⟨hw, eI, eJ, eQ, hWF⟩ := hp
      have eI : I = I4 := Eq.symm eI
      subst eI
      have eJ : J = J4 := Eq.symm eJ
      subst eJ
      have eQ : Q = Q4 := Eq.symm eQ
      subst eQ
      try dsimp only at hw hWF
      exact g_iret C dX11_node_49 hr ⟨hw, rfl, rfl, hWF⟩
    by_cases c5 : x2 = 1
    · have hw := hw.2.1 c5
      refine g_tableIn (tgt := 50) C dX11_node_11 (by rw [c5]; decide) (by rw [c5]; decide) (by rw [c5]; rfl) (by decide) ?_
      refine g_aload_n C dX11_node_50 rfl 0 rfl ?_
      refine g_iload_n C dX11_node_51 rfl 1 rfl ?_
      refine g_callVi (As := [.int x1]) C dX11_node_52 ft_387 z0 ft_404 ft_405 (met_X11_tells l hWF z0 hw) ⟨rfl, rfl, Nat.le_of_ble_eq_true rfl, Nat.le_of_ble_eq_true rfl⟩ ⟨Nat.zero_le _, Nat.zero_le _⟩ rfl rfl (Nat.le_of_ble_eq_true rfl) (fun r6 I6 J6 Q6 hp => ?_)
      obtain ⟨hw, eI, eJ, eQ, hWF⟩ := hp
      have eI : I = I6 := Eq.symm eI
      subst eI
      have eJ : J = J6 := Eq.symm eJ
      subst eJ
      have eQ : Q = Q6 := Eq.symm eQ
      subst eQ
      try dsimp only at hw hWF
      exact g_iret C dX11_node_55 hr ⟨hw, rfl, rfl, hWF⟩
    by_cases c7 : x2 = 2
    · have hw := hw.2.2.1 c7
      refine g_tableIn (tgt := 56) C dX11_node_11 (by rw [c7]; decide) (by rw [c7]; decide) (by rw [c7]; rfl) (by decide) ?_
      refine g_aload_n C dX11_node_56 rfl 0 rfl ?_
      refine g_getQ C dX11_node_57 ft_363 z0 (hWF.q z0 0 rfl) ?_
      have zz8 := hWF.r z0 0 rfl
      refine g_bipush (v := (15 : Int32)) C dX11_node_60 (by decide) ?_
      refine g_iload_n C dX11_node_62 rfl 1 rfl ?_
      refine g_iadd C dX11_node_63 ?_
      refine g_iald C dX11_node_64 zz8 hw.1 ?_
      have hw := hw.2
      exact g_iret C dX11_node_65 hr ⟨hw, rfl, rfl, hWF⟩
    by_cases c9 : x2 = 3
    · have hw := hw.2.2.2.1 c9
      refine g_tableIn (tgt := 66) C dX11_node_11 (by rw [c9]; decide) (by rw [c9]; decide) (by rw [c9]; rfl) (by decide) ?_
      refine g_aload_n C dX11_node_66 rfl 0 rfl ?_
      refine g_callVi (As := []) C dX11_node_67 ft_387 z0 ft_426 ft_427 (met_X11_present l hWF z0 hw) ⟨rfl, rfl, Nat.le_of_ble_eq_true rfl, Nat.le_of_ble_eq_true rfl⟩ ⟨Nat.zero_le _, Nat.zero_le _⟩ rfl rfl (Nat.le_of_ble_eq_true rfl) (fun r10 I10 J10 Q10 hp => ?_)
      obtain ⟨hw, eI, eJ, eQ, hWF⟩ := hp
      have eI : I = I10 := Eq.symm eI
      subst eI
      have eJ : J = J10 := Eq.symm eJ
      subst eJ
      have eQ : Q = Q10 := Eq.symm eQ
      subst eQ
      try dsimp only at hw hWF
      refine g_iload_n C dX11_node_70 rfl 1 rfl ?_
      refine g_aload_n C dX11_node_71 rfl 0 rfl ?_
      refine g_getQ C dX11_node_72 ft_363 z0 (hWF.q z0 0 rfl) ?_
      have zz11 := hWF.r z0 0 rfl
      refine g_iconst (v := (0 : Int32)) C dX11_node_75 (by decide) ?_
      refine g_iald C dX11_node_76 zz11 (vp_lit (by decide +kernel)) ?_
      refine g_iconst (v := (0 : Int32)) C dX11_node_77 (by decide) ?_
      refine g_callSi (As := [.int r10, .int x1, .int (I (rq Q h0 0) (0 : Int32).toNatClampNeg), .int (0 : Int32)]) C dX11_node_78 ft_383 ft_384 (met_X11_linkedBy l hWF  hw) ⟨rfl, rfl, Nat.le_of_ble_eq_true rfl, Nat.le_of_ble_eq_true rfl⟩ ⟨Nat.zero_le _, Nat.zero_le _⟩ rfl rfl (Nat.le_of_ble_eq_true rfl) (fun r12 I12 J12 Q12 hp => ?_)
      obtain ⟨hw, eI, eJ, eQ, hWF⟩ := hp
      have eI : I = I12 := Eq.symm eI
      subst eI
      have eJ : J = J12 := Eq.symm eJ
      subst eJ
      have eQ : Q = Q12 := Eq.symm eQ
      subst eQ
      try dsimp only at hw hWF
      exact g_iret C dX11_node_81 hr ⟨hw, rfl, rfl, hWF⟩
    by_cases c13 : x2 = 4
    · have hw := hw.2.2.2.2.1 c13
      refine g_tableIn (tgt := 82) C dX11_node_11 (by rw [c13]; decide) (by rw [c13]; decide) (by rw [c13]; rfl) (by decide) ?_
      refine g_aload_n C dX11_node_82 rfl 0 rfl ?_
      refine g_callVv (As := []) C dX11_node_83 ft_387 z0 ft_428 ft_429 (met_X11_laysSends l hWF z0 hw) ⟨rfl, rfl, Nat.le_of_ble_eq_true rfl, Nat.le_of_ble_eq_true rfl⟩ ⟨Nat.zero_le _, Nat.zero_le _⟩ rfl rfl (Nat.le_of_ble_eq_true rfl) (fun I14 J14 Q14 hp => ?_)
      obtain ⟨hw, eJ, eQ, hWF⟩ := hp
      have eJ : J = J14 := Eq.symm eJ
      subst eJ
      have eQ : Q = Q14 := Eq.symm eQ
      subst eQ
      try dsimp only at hw hWF
      refine g_aload_n C dX11_node_86 rfl 0 rfl ?_
      refine g_iload_n C dX11_node_87 rfl 1 rfl ?_
      refine g_aload_n C dX11_node_88 rfl 0 rfl ?_
      refine g_callVi (As := []) C dX11_node_89 ft_387 z0 ft_426 ft_427 (met_X11_present l hWF z0 hw) ⟨rfl, rfl, Nat.le_of_ble_eq_true rfl, Nat.le_of_ble_eq_true rfl⟩ ⟨Nat.zero_le _, Nat.zero_le _⟩ rfl rfl (Nat.le_of_ble_eq_true rfl) (fun r15 I15 J15 Q15 hp => ?_)
      obtain ⟨hw, eI, eJ, eQ, hWF⟩ := hp
      have eI : I14 = I15 := Eq.symm eI
      subst eI
      have eJ : J = J15 := Eq.symm eJ
      subst eJ
      have eQ : Q = Q15 := Eq.symm eQ
      subst eQ
      try dsimp only at hw hWF
      refine g_iload_n C dX11_node_92 rfl 1 rfl ?_
      refine g_aload_n C dX11_node_93 rfl 0 rfl ?_
      refine g_getQ C dX11_node_94 ft_363 z0 (hWF.q z0 0 rfl) ?_
      have zz16 := hWF.r z0 0 rfl
      refine g_iconst (v := (0 : Int32)) C dX11_node_97 (by decide) ?_
      refine g_iald C dX11_node_98 zz16 (vp_lit (by decide +kernel)) ?_
      refine g_iconst (v := (0 : Int32)) C dX11_node_99 (by decide) ?_
      refine g_callSi (As := [.int r15, .int x1, .int (I14 (rq Q h0 0) (0 : Int32).toNatClampNeg), .int (0 : Int32)]) C dX11_node_100 ft_383 ft_384 (met_X11_linkedBy l hWF  hw) ⟨rfl, rfl, Nat.le_of_ble_eq_true rfl, Nat.le_of_ble_eq_true rfl⟩ ⟨Nat.zero_le _, Nat.zero_le _⟩ rfl rfl (Nat.le_of_ble_eq_true rfl) (fun r17 I17 J17 Q17 hp => ?_)
      obtain ⟨hw, eI, eJ, eQ, hWF⟩ := hp
      have eI : I14 = I17 := Eq.symm eI
      subst eI
      have eJ : J = J17 := Eq.symm eJ
      subst eJ
      have eQ : Q = Q17 := Eq.symm eQ
      subst eQ
      try dsimp only at hw hWF
      refine g_callVi (As := [.int x1, .int r17]) C dX11_node_103 ft_387 z0 ft_436 ft_437 (met_X11_growth l hWF z0 hw) ⟨rfl, rfl, Nat.le_of_ble_eq_true rfl, Nat.le_of_ble_eq_true rfl⟩ ⟨Nat.zero_le _, Nat.zero_le _⟩ rfl rfl (Nat.le_of_ble_eq_true rfl) (fun r18 I18 J18 Q18 hp => ?_)
      obtain ⟨hw, eJ, eQ, hWF⟩ := hp
      have eJ : J = J18 := Eq.symm eJ
      subst eJ
      have eQ : Q = Q18 := Eq.symm eQ
      subst eQ
      try dsimp only at hw hWF
      exact g_iret C dX11_node_106 hr ⟨hw, rfl, rfl, hWF⟩
    have hw := hw.2.2.2.2.2 c3 c5 c7 c9 c13
    refine g_tableOut (tgt := 107) C dX11_node_11 (sw_out (fun v h1 h2 => by rcases (show v = 0 ∨ v = 1 ∨ v = 2 ∨ v = 3 ∨ v = 4 by omega) with rfl | rfl | rfl | rfl | rfl <;> first | exact c3 | exact c5 | exact c7 | exact c9 | exact c13)) (by decide) ?_
    refine g_iconst (v := (-1 : Int32)) C dX11_node_107 (by decide) ?_
    exact g_iret C dX11_node_108 hr ⟨hw, rfl, rfl, hWF⟩
  · have hw := hw.2 c2
    refine g_iconst (v := (-1 : Int32)) C dX11_node_8 (by decide) ?_
    exact g_iret C dX11_node_9 hr ⟨hw, rfl, rfl, hWF⟩
def wp_X11_sum (I : KI) (Q : KQ) (h0 : Nat) (x1 : Int32) (x2 : Int32) (post : Int32 → Prop) : Prop := wp_X11_isNode I Q h0 x1 (fun r1 => ((r1 = 0 → post (-1 : Int32)) ∧ (¬ r1 = 0 → ((0 ≤ x2 → wp_X11_rank I Q h0 x1 (fun r4 => ((r4 ≤ x2 → post (-4 : Int32)) ∧ (¬ r4 ≤ x2 → wp_X11_sumOf I Q h0 x1 x2 (fun r6 => post r6))))) ∧ (¬ 0 ≤ x2 → post (-1 : Int32))))))
set_option maxHeartbeats 4000000 in
set_option maxRecDepth 100000 in
theorem met_X11_sum {Z : Nat → Prop} {A : Nat → Prop} {D : va_G} {D2 : Nat → ClassId} {ad : Nat → Nat} {N : Nat} {T : Nat → Nat × Nat} (l : Launch) {I : KI} {J : KJ} {Q : KQ} {h0 : Nat} {x1 : Int32} {x2 : Int32} {post : Int32 → Prop} (hWF : WF Z N T Q) (z0 : OKr Z N T h0 (11, 0)) (hw : wp_X11_sum I Q h0 x1 x2 post) : Met l yX11_sum (.code yX11_sum cX11_sum 3 (some .int) :: BIG) ({ frames := 4, cells := 0, slots := 0, locals := 92 }) (Pr D D2 A ad N T I J Q [.ref (ad h0), .int x1, .int x2]) (va_Qi (fun (r : Int32) (u : KS) => post r ∧ u.1 = I ∧ u.2.1 = J ∧ u.2.2 = Q ∧ WF Z N T u.2.2) (Bw D D2 ad N T) A) 0 0 A := by
  refine Met_GG (lv0 := [(0, .ref (ad h0)), (1, .int x1), (2, .int x2)]) (by decide +kernel) [.ref (ad h0), .int x1, .int x2] (Nat.le_of_ble_eq_true rfl) rfl ?_
  intro p e s m below meth c C hr
  have C : CX p s m [.ref (ad h0), .int x1, .int x2].toArray meth c cX11_sum 3 RX11 A D D2 := C
  unfold wp_X11_sum at hw
  refine g_aload_n C dX11_sum_0 rfl 0 rfl ?_
  refine g_iload_n C dX11_sum_1 rfl 1 rfl ?_
  refine g_callVi (As := [.int x1]) C dX11_sum_2 ft_387 z0 ft_434 ft_435 (met_X11_isNode l hWF z0 hw) ⟨rfl, rfl, Nat.le_of_ble_eq_true rfl, Nat.le_of_ble_eq_true rfl⟩ ⟨Nat.zero_le _, Nat.zero_le _⟩ rfl rfl (Nat.le_of_ble_eq_true rfl) (fun r1 I1 J1 Q1 hp => ?_)
  obtain ⟨hw, eI, eJ, eQ, hWF⟩ := hp
  have eI : I = I1 := Eq.symm eI
  subst eI
  have eJ : J = J1 := Eq.symm eJ
  subst eJ
  have eQ : Q = Q1 := Eq.symm eQ
  subst eQ
  try dsimp only at hw hWF
  refine g_if_eq (tgt := 12) C dX11_sum_5 (by decide) (fun c2 => ?_) (fun c2 => ?_)
  · have hw := hw.1 c2
    refine g_iconst (v := (-1 : Int32)) C dX11_sum_12 (by decide) ?_
    exact g_iret C dX11_sum_13 hr ⟨hw, rfl, rfl, rfl, hWF⟩
  · have hw := hw.2 c2
    refine g_iload_n C dX11_sum_8 rfl 2 rfl ?_
    refine g_if_ge (tgt := 14) C dX11_sum_9 (by decide) (fun c3 => ?_) (fun c3 => ?_)
    · have hw := hw.1 c3
      refine g_iload_n C dX11_sum_14 rfl 2 rfl ?_
      refine g_aload_n C dX11_sum_15 rfl 0 rfl ?_
      refine g_iload_n C dX11_sum_16 rfl 1 rfl ?_
      refine g_callVi (As := [.int x1]) C dX11_sum_17 ft_387 z0 ft_399 ft_400 (met_X11_rank l hWF z0 hw) ⟨rfl, rfl, Nat.le_of_ble_eq_true rfl, Nat.le_of_ble_eq_true rfl⟩ ⟨Nat.zero_le _, Nat.zero_le _⟩ rfl rfl (Nat.le_of_ble_eq_true rfl) (fun r4 I4 J4 Q4 hp => ?_)
      obtain ⟨hw, eI, eJ, eQ, hWF⟩ := hp
      have eI : I = I4 := Eq.symm eI
      subst eI
      have eJ : J = J4 := Eq.symm eJ
      subst eJ
      have eQ : Q = Q4 := Eq.symm eQ
      subst eQ
      try dsimp only at hw hWF
      refine g_icmp_ge (tgt := 32) C dX11_sum_20 (by decide) (fun c5 => ?_) (fun c5 => ?_)
      · have hw := hw.1 c5
        refine g_bipush (v := (-4 : Int32)) C dX11_sum_32 (by decide) ?_
        exact g_iret C dX11_sum_34 hr ⟨hw, rfl, rfl, rfl, hWF⟩
      · have hw := hw.2 c5
        refine g_aload_n C dX11_sum_23 rfl 0 rfl ?_
        refine g_iload_n C dX11_sum_24 rfl 1 rfl ?_
        refine g_iload_n C dX11_sum_25 rfl 2 rfl ?_
        refine g_callVi (As := [.int x1, .int x2]) C dX11_sum_26 ft_387 z0 ft_409 ft_410 (met_X11_sumOf l hWF z0 hw) ⟨rfl, rfl, Nat.le_of_ble_eq_true rfl, Nat.le_of_ble_eq_true rfl⟩ ⟨Nat.zero_le _, Nat.zero_le _⟩ rfl rfl (Nat.le_of_ble_eq_true rfl) (fun r6 I6 J6 Q6 hp => ?_)
        obtain ⟨hw, eI, eJ, eQ, hWF⟩ := hp
        have eI : I = I6 := Eq.symm eI
        subst eI
        have eJ : J = J6 := Eq.symm eJ
        subst eJ
        have eQ : Q = Q6 := Eq.symm eQ
        subst eQ
        try dsimp only at hw hWF
        refine g_goto C dX11_sum_29 (tgt := 34) (by decide) ?_
        exact g_iret C dX11_sum_34 hr ⟨hw, rfl, rfl, rfl, hWF⟩
    · have hw := hw.2 c3
      refine g_iconst (v := (-1 : Int32)) C dX11_sum_12 (by decide) ?_
      exact g_iret C dX11_sum_13 hr ⟨hw, rfl, rfl, rfl, hWF⟩
def wp_X11_knows (I : KI) (Q : KQ) (h0 : Nat) (x1 : Int32) (x2 : Int32) (post : Int32 → Prop) : Prop := wp_X11_isNode I Q h0 x1 (fun r1 => ((r1 = 0 → post (-1 : Int32)) ∧ (¬ r1 = 0 → wp_X11_isSet x2 (I (rq Q h0 0) (1 : Int32).toNatClampNeg) (fun r4 => ((¬ r4 = 0 → wp_X11_isKnown I Q h0 x1 x2 (fun r6 => ((r6 = 0 → post (0 : Int32)) ∧ (¬ r6 = 0 → post (1 : Int32))))) ∧ (r4 = 0 → post (-1 : Int32)))))))
set_option maxHeartbeats 4000000 in
set_option maxRecDepth 100000 in
theorem met_X11_knows {Z : Nat → Prop} {A : Nat → Prop} {D : va_G} {D2 : Nat → ClassId} {ad : Nat → Nat} {N : Nat} {T : Nat → Nat × Nat} (l : Launch) {I : KI} {J : KJ} {Q : KQ} {h0 : Nat} {x1 : Int32} {x2 : Int32} {post : Int32 → Prop} (hWF : WF Z N T Q) (z0 : OKr Z N T h0 (11, 0)) (hw : wp_X11_knows I Q h0 x1 x2 post) : Met l yX11_knows (.code yX11_knows cX11_knows 3 (some .int) :: BIG) ({ frames := 2, cells := 0, slots := 0, locals := 46 }) (Pr D D2 A ad N T I J Q [.ref (ad h0), .int x1, .int x2]) (va_Qi (fun (r : Int32) (u : KS) => post r ∧ u.1 = I ∧ u.2.1 = J ∧ u.2.2 = Q ∧ WF Z N T u.2.2) (Bw D D2 ad N T) A) 0 0 A := by
  refine Met_GG (lv0 := [(0, .ref (ad h0)), (1, .int x1), (2, .int x2)]) (by decide +kernel) [.ref (ad h0), .int x1, .int x2] (Nat.le_of_ble_eq_true rfl) rfl ?_
  intro p e s m below meth c C hr
  have C : CX p s m [.ref (ad h0), .int x1, .int x2].toArray meth c cX11_knows 3 RX11 A D D2 := C
  unfold wp_X11_knows at hw
  refine g_aload_n C dX11_knows_0 rfl 0 rfl ?_
  refine g_iload_n C dX11_knows_1 rfl 1 rfl ?_
  refine g_callVi (As := [.int x1]) C dX11_knows_2 ft_387 z0 ft_434 ft_435 (met_X11_isNode l hWF z0 hw) ⟨rfl, rfl, Nat.le_of_ble_eq_true rfl, Nat.le_of_ble_eq_true rfl⟩ ⟨Nat.zero_le _, Nat.zero_le _⟩ rfl rfl (Nat.le_of_ble_eq_true rfl) (fun r1 I1 J1 Q1 hp => ?_)
  obtain ⟨hw, eI, eJ, eQ, hWF⟩ := hp
  have eI : I = I1 := Eq.symm eI
  subst eI
  have eJ : J = J1 := Eq.symm eJ
  subst eJ
  have eQ : Q = Q1 := Eq.symm eQ
  subst eQ
  try dsimp only at hw hWF
  refine g_if_eq (tgt := 21) C dX11_knows_5 (by decide) (fun c2 => ?_) (fun c2 => ?_)
  · have hw := hw.1 c2
    refine g_iconst (v := (-1 : Int32)) C dX11_knows_21 (by decide) ?_
    exact g_iret C dX11_knows_22 hr ⟨hw, rfl, rfl, rfl, hWF⟩
  · have hw := hw.2 c2
    refine g_iload_n C dX11_knows_8 rfl 2 rfl ?_
    refine g_aload_n C dX11_knows_9 rfl 0 rfl ?_
    refine g_getQ C dX11_knows_10 ft_363 z0 (hWF.q z0 0 rfl) ?_
    have zz3 := hWF.r z0 0 rfl
    refine g_iconst (v := (1 : Int32)) C dX11_knows_13 (by decide) ?_
    refine g_iald C dX11_knows_14 zz3 (vp_lit (by decide +kernel)) ?_
    refine g_callSi (As := [.int x2, .int (I (rq Q h0 0) (1 : Int32).toNatClampNeg)]) C dX11_knows_15 ft_432 ft_433 (met_X11_isSet l hWF  hw) ⟨rfl, rfl, Nat.le_of_ble_eq_true rfl, Nat.le_of_ble_eq_true rfl⟩ ⟨Nat.zero_le _, Nat.zero_le _⟩ rfl rfl (Nat.le_of_ble_eq_true rfl) (fun r4 I4 J4 Q4 hp => ?_)
    obtain ⟨hw, eI, eJ, eQ, hWF⟩ := hp
    have eI : I = I4 := Eq.symm eI
    subst eI
    have eJ : J = J4 := Eq.symm eJ
    subst eJ
    have eQ : Q = Q4 := Eq.symm eQ
    subst eQ
    try dsimp only at hw hWF
    refine g_if_ne (tgt := 23) C dX11_knows_18 (by decide) (fun c5 => ?_) (fun c5 => ?_)
    · have hw := hw.1 c5
      refine g_aload_n C dX11_knows_23 rfl 0 rfl ?_
      refine g_iload_n C dX11_knows_24 rfl 1 rfl ?_
      refine g_iload_n C dX11_knows_25 rfl 2 rfl ?_
      refine g_callVi (As := [.int x1, .int x2]) C dX11_knows_26 ft_387 z0 ft_391 ft_392 (met_X11_isKnown l hWF z0 hw) ⟨rfl, rfl, Nat.le_of_ble_eq_true rfl, Nat.le_of_ble_eq_true rfl⟩ ⟨Nat.zero_le _, Nat.zero_le _⟩ rfl rfl (Nat.le_of_ble_eq_true rfl) (fun r6 I6 J6 Q6 hp => ?_)
      obtain ⟨hw, eI, eJ, eQ, hWF⟩ := hp
      have eI : I = I6 := Eq.symm eI
      subst eI
      have eJ : J = J6 := Eq.symm eJ
      subst eJ
      have eQ : Q = Q6 := Eq.symm eQ
      subst eQ
      try dsimp only at hw hWF
      refine g_if_eq (tgt := 36) C dX11_knows_29 (by decide) (fun c7 => ?_) (fun c7 => ?_)
      · have hw := hw.1 c7
        refine g_iconst (v := (0 : Int32)) C dX11_knows_36 (by decide) ?_
        exact g_iret C dX11_knows_37 hr ⟨hw, rfl, rfl, rfl, hWF⟩
      · have hw := hw.2 c7
        refine g_iconst (v := (1 : Int32)) C dX11_knows_32 (by decide) ?_
        refine g_goto C dX11_knows_33 (tgt := 37) (by decide) ?_
        exact g_iret C dX11_knows_37 hr ⟨hw, rfl, rfl, rfl, hWF⟩
    · have hw := hw.2 c5
      refine g_iconst (v := (-1 : Int32)) C dX11_knows_21 (by decide) ?_
      exact g_iret C dX11_knows_22 hr ⟨hw, rfl, rfl, rfl, hWF⟩
def wp_X11_sends (I : KI) (Q : KQ) (h0 : Nat) (x1 : Int32) (post : Int32 → KI → Prop) : Prop := wp_X11_isNode I Q h0 x1 (fun r1 => ((¬ r1 = 0 → wp_X11_laysSends I Q h0 (fun I3 => (((I3 (rq Q h0 0) (2 : Int32).toNatClampNeg) ≤ (2 : Int32) → (vp_in x1 6 ∧ ((¬ (I3 (rq Q h0 10) x1.toNatClampNeg) = 0 → (vp_in ((8 : Int32) * x1) 48 ∧ post (I3 (rq Q h0 11) ((8 : Int32) * x1).toNatClampNeg) I3)) ∧ ((I3 (rq Q h0 10) x1.toNatClampNeg) = 0 → post (-4 : Int32) I3)))) ∧ (¬ (I3 (rq Q h0 0) (2 : Int32).toNatClampNeg) ≤ (2 : Int32) → (vp_in x1 6 ∧ post (I3 (rq Q h0 10) x1.toNatClampNeg) I3))))) ∧ (r1 = 0 → post (-1 : Int32) I)))
set_option maxHeartbeats 4000000 in
set_option maxRecDepth 100000 in
theorem met_X11_sends {Z : Nat → Prop} {A : Nat → Prop} {D : va_G} {D2 : Nat → ClassId} {ad : Nat → Nat} {N : Nat} {T : Nat → Nat × Nat} (l : Launch) {I : KI} {J : KJ} {Q : KQ} {h0 : Nat} {x1 : Int32} {post : Int32 → KI → Prop} (hWF : WF Z N T Q) (z0 : OKr Z N T h0 (11, 0)) (hw : wp_X11_sends I Q h0 x1 post) : Met l yX11_sends (.code yX11_sends cX11_sends 2 (some .int) :: BIG) ({ frames := 6, cells := 0, slots := 0, locals := 141 }) (Pr D D2 A ad N T I J Q [.ref (ad h0), .int x1]) (va_Qi (fun (r : Int32) (u : KS) => post r u.1 ∧ u.2.1 = J ∧ u.2.2 = Q ∧ WF Z N T u.2.2) (Bw D D2 ad N T) A) 0 0 A := by
  refine Met_GG (lv0 := [(0, .ref (ad h0)), (1, .int x1)]) (by decide +kernel) [.ref (ad h0), .int x1] (Nat.le_of_ble_eq_true rfl) rfl ?_
  intro p e s m below meth c C hr
  have C : CX p s m [.ref (ad h0), .int x1].toArray meth c cX11_sends 2 RX11 A D D2 := C
  unfold wp_X11_sends at hw
  refine g_aload_n C dX11_sends_0 rfl 0 rfl ?_
  refine g_iload_n C dX11_sends_1 rfl 1 rfl ?_
  refine g_callVi (As := [.int x1]) C dX11_sends_2 ft_387 z0 ft_434 ft_435 (met_X11_isNode l hWF z0 hw) ⟨rfl, rfl, Nat.le_of_ble_eq_true rfl, Nat.le_of_ble_eq_true rfl⟩ ⟨Nat.zero_le _, Nat.zero_le _⟩ rfl rfl (Nat.le_of_ble_eq_true rfl) (fun r1 I1 J1 Q1 hp => ?_)
  obtain ⟨hw, eI, eJ, eQ, hWF⟩ := hp
  have eI : I = I1 := Eq.symm eI
  subst eI
  have eJ : J = J1 := Eq.symm eJ
  subst eJ
  have eQ : Q = Q1 := Eq.symm eQ
  subst eQ
  try dsimp only at hw hWF
  refine g_if_ne (tgt := 10) C dX11_sends_5 (by decide) (fun c2 => ?_) (fun c2 => ?_)
  · have hw := hw.1 c2
    refine g_aload_n C dX11_sends_10 rfl 0 rfl ?_
    refine g_callVv (As := []) C dX11_sends_11 ft_387 z0 ft_428 ft_429 (met_X11_laysSends l hWF z0 hw) ⟨rfl, rfl, Nat.le_of_ble_eq_true rfl, Nat.le_of_ble_eq_true rfl⟩ ⟨Nat.zero_le _, Nat.zero_le _⟩ rfl rfl (Nat.le_of_ble_eq_true rfl) (fun I3 J3 Q3 hp => ?_)
    obtain ⟨hw, eJ, eQ, hWF⟩ := hp
    have eJ : J = J3 := Eq.symm eJ
    subst eJ
    have eQ : Q = Q3 := Eq.symm eQ
    subst eQ
    try dsimp only at hw hWF
    refine g_aload_n C dX11_sends_14 rfl 0 rfl ?_
    refine g_getQ C dX11_sends_15 ft_363 z0 (hWF.q z0 0 rfl) ?_
    have zz4 := hWF.r z0 0 rfl
    refine g_iconst (v := (2 : Int32)) C dX11_sends_18 (by decide) ?_
    refine g_iald C dX11_sends_19 zz4 (vp_lit (by decide +kernel)) ?_
    refine g_iconst (v := (2 : Int32)) C dX11_sends_20 (by decide) ?_
    refine g_icmp_le (tgt := 31) C dX11_sends_21 (by decide) (fun c5 => ?_) (fun c5 => ?_)
    · have hw := hw.1 c5
      refine g_aload_n C dX11_sends_31 rfl 0 rfl ?_
      refine g_getQ C dX11_sends_32 ft_417 z0 (hWF.q z0 10 rfl) ?_
      have zz6 := hWF.r z0 10 rfl
      refine g_iload_n C dX11_sends_35 rfl 1 rfl ?_
      refine g_iald C dX11_sends_36 zz6 hw.1 ?_
      have hw := hw.2
      refine g_if_ne (tgt := 45) C dX11_sends_37 (by decide) (fun c7 => ?_) (fun c7 => ?_)
      · have hw := hw.1 c7
        refine g_aload_n C dX11_sends_45 rfl 0 rfl ?_
        refine g_getQ C dX11_sends_46 ft_418 z0 (hWF.q z0 11 rfl) ?_
        have zz8 := hWF.r z0 11 rfl
        refine g_bipush (v := (8 : Int32)) C dX11_sends_49 (by decide) ?_
        refine g_iload_n C dX11_sends_51 rfl 1 rfl ?_
        refine g_imul C dX11_sends_52 ?_
        refine g_iald C dX11_sends_53 zz8 hw.1 ?_
        have hw := hw.2
        exact g_iret C dX11_sends_54 hr ⟨hw, rfl, rfl, hWF⟩
      · have hw := hw.2 c7
        refine g_bipush (v := (-4 : Int32)) C dX11_sends_40 (by decide) ?_
        refine g_goto C dX11_sends_42 (tgt := 54) (by decide) ?_
        exact g_iret C dX11_sends_54 hr ⟨hw, rfl, rfl, hWF⟩
    · have hw := hw.2 c5
      refine g_aload_n C dX11_sends_24 rfl 0 rfl ?_
      refine g_getQ C dX11_sends_25 ft_417 z0 (hWF.q z0 10 rfl) ?_
      have zz9 := hWF.r z0 10 rfl
      refine g_iload_n C dX11_sends_28 rfl 1 rfl ?_
      refine g_iald C dX11_sends_29 zz9 hw.1 ?_
      have hw := hw.2
      exact g_iret C dX11_sends_30 hr ⟨hw, rfl, rfl, hWF⟩
  · have hw := hw.2 c2
    refine g_iconst (v := (-1 : Int32)) C dX11_sends_8 (by decide) ?_
    exact g_iret C dX11_sends_9 hr ⟨hw, rfl, rfl, hWF⟩
def wp_X11_linked (I : KI) (Q : KQ) (h0 : Nat) (x1 : Int32) (x2 : Int32) (post : Int32 → Prop) : Prop := ((x1 < 0 → post (-1 : Int32)) ∧ (¬ x1 < 0 → wp_X11_isNode I Q h0 x2 (fun r2 => ((r2 = 0 → post (-1 : Int32)) ∧ (¬ r2 = 0 → wp_X11_linksOf I Q h0 x1 (fun r4 => wp_X11_linkedBy r4 x2 (I (rq Q h0 0) (0 : Int32).toNatClampNeg) (0 : Int32) (fun r6 => post r6)))))))
set_option maxHeartbeats 4000000 in
set_option maxRecDepth 100000 in
theorem met_X11_linked {Z : Nat → Prop} {A : Nat → Prop} {D : va_G} {D2 : Nat → ClassId} {ad : Nat → Nat} {N : Nat} {T : Nat → Nat × Nat} (l : Launch) {I : KI} {J : KJ} {Q : KQ} {h0 : Nat} {x1 : Int32} {x2 : Int32} {post : Int32 → Prop} (hWF : WF Z N T Q) (z0 : OKr Z N T h0 (11, 0)) (hw : wp_X11_linked I Q h0 x1 x2 post) : Met l yX11_linked (.code yX11_linked cX11_linked 3 (some .int) :: BIG) ({ frames := 2, cells := 0, slots := 0, locals := 46 }) (Pr D D2 A ad N T I J Q [.ref (ad h0), .int x1, .int x2]) (va_Qi (fun (r : Int32) (u : KS) => post r ∧ u.1 = I ∧ u.2.1 = J ∧ u.2.2 = Q ∧ WF Z N T u.2.2) (Bw D D2 ad N T) A) 0 0 A := by
  refine Met_GG (lv0 := [(0, .ref (ad h0)), (1, .int x1), (2, .int x2)]) (by decide +kernel) [.ref (ad h0), .int x1, .int x2] (Nat.le_of_ble_eq_true rfl) rfl ?_
  intro p e s m below meth c C hr
  have C : CX p s m [.ref (ad h0), .int x1, .int x2].toArray meth c cX11_linked 3 RX11 A D D2 := C
  unfold wp_X11_linked at hw
  refine g_iload_n C dX11_linked_0 rfl 1 rfl ?_
  refine g_if_lt (tgt := 31) C dX11_linked_1 (by decide) (fun c1 => ?_) (fun c1 => ?_)
  · have hw := hw.1 c1
    refine g_iconst (v := (-1 : Int32)) C dX11_linked_31 (by decide) ?_
    exact g_iret C dX11_linked_32 hr ⟨hw, rfl, rfl, rfl, hWF⟩
  · have hw := hw.2 c1
    refine g_aload_n C dX11_linked_4 rfl 0 rfl ?_
    refine g_iload_n C dX11_linked_5 rfl 2 rfl ?_
    refine g_callVi (As := [.int x2]) C dX11_linked_6 ft_387 z0 ft_434 ft_435 (met_X11_isNode l hWF z0 hw) ⟨rfl, rfl, Nat.le_of_ble_eq_true rfl, Nat.le_of_ble_eq_true rfl⟩ ⟨Nat.zero_le _, Nat.zero_le _⟩ rfl rfl (Nat.le_of_ble_eq_true rfl) (fun r2 I2 J2 Q2 hp => ?_)
    obtain ⟨hw, eI, eJ, eQ, hWF⟩ := hp
    have eI : I = I2 := Eq.symm eI
    subst eI
    have eJ : J = J2 := Eq.symm eJ
    subst eJ
    have eQ : Q = Q2 := Eq.symm eQ
    subst eQ
    try dsimp only at hw hWF
    refine g_if_eq (tgt := 31) C dX11_linked_9 (by decide) (fun c3 => ?_) (fun c3 => ?_)
    · have hw := hw.1 c3
      refine g_iconst (v := (-1 : Int32)) C dX11_linked_31 (by decide) ?_
      exact g_iret C dX11_linked_32 hr ⟨hw, rfl, rfl, rfl, hWF⟩
    · have hw := hw.2 c3
      refine g_aload_n C dX11_linked_12 rfl 0 rfl ?_
      refine g_iload_n C dX11_linked_13 rfl 1 rfl ?_
      refine g_callVi (As := [.int x1]) C dX11_linked_14 ft_387 z0 ft_385 ft_386 (met_X11_linksOf l hWF z0 hw) ⟨rfl, rfl, Nat.le_of_ble_eq_true rfl, Nat.le_of_ble_eq_true rfl⟩ ⟨Nat.zero_le _, Nat.zero_le _⟩ rfl rfl (Nat.le_of_ble_eq_true rfl) (fun r4 I4 J4 Q4 hp => ?_)
      obtain ⟨hw, eI, eJ, eQ, hWF⟩ := hp
      have eI : I = I4 := Eq.symm eI
      subst eI
      have eJ : J = J4 := Eq.symm eJ
      subst eJ
      have eQ : Q = Q4 := Eq.symm eQ
      subst eQ
      try dsimp only at hw hWF
      refine g_iload_n C dX11_linked_17 rfl 2 rfl ?_
      refine g_aload_n C dX11_linked_18 rfl 0 rfl ?_
      refine g_getQ C dX11_linked_19 ft_363 z0 (hWF.q z0 0 rfl) ?_
      have zz5 := hWF.r z0 0 rfl
      refine g_iconst (v := (0 : Int32)) C dX11_linked_22 (by decide) ?_
      refine g_iald C dX11_linked_23 zz5 (vp_lit (by decide +kernel)) ?_
      refine g_iconst (v := (0 : Int32)) C dX11_linked_24 (by decide) ?_
      refine g_callSi (As := [.int r4, .int x2, .int (I (rq Q h0 0) (0 : Int32).toNatClampNeg), .int (0 : Int32)]) C dX11_linked_25 ft_383 ft_384 (met_X11_linkedBy l hWF  hw) ⟨rfl, rfl, Nat.le_of_ble_eq_true rfl, Nat.le_of_ble_eq_true rfl⟩ ⟨Nat.zero_le _, Nat.zero_le _⟩ rfl rfl (Nat.le_of_ble_eq_true rfl) (fun r6 I6 J6 Q6 hp => ?_)
      obtain ⟨hw, eI, eJ, eQ, hWF⟩ := hp
      have eI : I = I6 := Eq.symm eI
      subst eI
      have eJ : J = J6 := Eq.symm eJ
      subst eJ
      have eQ : Q = Q6 := Eq.symm eQ
      subst eQ
      try dsimp only at hw hWF
      refine g_goto C dX11_linked_28 (tgt := 32) (by decide) ?_
      exact g_iret C dX11_linked_32 hr ⟨hw, rfl, rfl, rfl, hWF⟩
def wp_X11_count (I : KI) (Q : KQ) (h0 : Nat) (x1 : Int32) (post : Int32 → Prop) : Prop := ((x1 = 0 → post (I (rq Q h0 0) (0 : Int32).toNatClampNeg)) ∧ (x1 = 1 → post (I (rq Q h0 0) (1 : Int32).toNatClampNeg)) ∧ (x1 = 2 → post (I (rq Q h0 0) (2 : Int32).toNatClampNeg)) ∧ (x1 = 3 → post (I (rq Q h0 0) (3 : Int32).toNatClampNeg)) ∧ (x1 = 4 → post (I (rq Q h0 0) (4 : Int32).toNatClampNeg)) ∧ (x1 = 5 → post (I (rq Q h0 0) (6 : Int32).toNatClampNeg)) ∧ (x1 = 6 → wp_X11_ranks I Q h0 (fun r14 => post r14)) ∧ (x1 = 7 → wp_X11_whole I Q h0 (fun r16 => post r16)) ∧ (x1 = 8 → post (I h0 1)) ∧ (¬ x1 = 0 → ¬ x1 = 1 → ¬ x1 = 2 → ¬ x1 = 3 → ¬ x1 = 4 → ¬ x1 = 5 → ¬ x1 = 6 → ¬ x1 = 7 → ¬ x1 = 8 → post (-1 : Int32)))
set_option maxHeartbeats 4000000 in
set_option maxRecDepth 100000 in
theorem met_X11_count {Z : Nat → Prop} {A : Nat → Prop} {D : va_G} {D2 : Nat → ClassId} {ad : Nat → Nat} {N : Nat} {T : Nat → Nat × Nat} (l : Launch) {I : KI} {J : KJ} {Q : KQ} {h0 : Nat} {x1 : Int32} {post : Int32 → Prop} (hWF : WF Z N T Q) (z0 : OKr Z N T h0 (11, 0)) (hw : wp_X11_count I Q h0 x1 post) : Met l yX11_count (.code yX11_count cX11_count 2 (some .int) :: BIG) ({ frames := 3, cells := 0, slots := 0, locals := 67 }) (Pr D D2 A ad N T I J Q [.ref (ad h0), .int x1]) (va_Qi (fun (r : Int32) (u : KS) => post r ∧ u.1 = I ∧ u.2.1 = J ∧ u.2.2 = Q ∧ WF Z N T u.2.2) (Bw D D2 ad N T) A) 0 0 A := by
  refine Met_GG (lv0 := [(0, .ref (ad h0)), (1, .int x1)]) (by decide +kernel) [.ref (ad h0), .int x1] (Nat.le_of_ble_eq_true rfl) rfl ?_
  intro p e s m below meth c C hr
  have C : CX p s m [.ref (ad h0), .int x1].toArray meth c cX11_count 2 RX11 A D D2 := C
  unfold wp_X11_count at hw
  refine g_iload_n C dX11_count_0 rfl 1 rfl ?_
  by_cases c1 : x1 = 0
  · have hw := hw.1 c1
    refine g_tableIn (tgt := 52) C dX11_count_1 (by rw [c1]; decide) (by rw [c1]; decide) (by rw [c1]; rfl) (by decide) ?_
    refine g_aload_n C dX11_count_52 rfl 0 rfl ?_
    refine g_getQ C dX11_count_53 ft_363 z0 (hWF.q z0 0 rfl) ?_
    have zz2 := hWF.r z0 0 rfl
    refine g_iconst (v := (0 : Int32)) C dX11_count_56 (by decide) ?_
    refine g_iald C dX11_count_57 zz2 (vp_lit (by decide +kernel)) ?_
    exact g_iret C dX11_count_58 hr ⟨hw, rfl, rfl, rfl, hWF⟩
  by_cases c3 : x1 = 1
  · have hw := hw.2.1 c3
    refine g_tableIn (tgt := 59) C dX11_count_1 (by rw [c3]; decide) (by rw [c3]; decide) (by rw [c3]; rfl) (by decide) ?_
    refine g_aload_n C dX11_count_59 rfl 0 rfl ?_
    refine g_getQ C dX11_count_60 ft_363 z0 (hWF.q z0 0 rfl) ?_
    have zz4 := hWF.r z0 0 rfl
    refine g_iconst (v := (1 : Int32)) C dX11_count_63 (by decide) ?_
    refine g_iald C dX11_count_64 zz4 (vp_lit (by decide +kernel)) ?_
    exact g_iret C dX11_count_65 hr ⟨hw, rfl, rfl, rfl, hWF⟩
  by_cases c5 : x1 = 2
  · have hw := hw.2.2.1 c5
    refine g_tableIn (tgt := 66) C dX11_count_1 (by rw [c5]; decide) (by rw [c5]; decide) (by rw [c5]; rfl) (by decide) ?_
    refine g_aload_n C dX11_count_66 rfl 0 rfl ?_
    refine g_getQ C dX11_count_67 ft_363 z0 (hWF.q z0 0 rfl) ?_
    have zz6 := hWF.r z0 0 rfl
    refine g_iconst (v := (2 : Int32)) C dX11_count_70 (by decide) ?_
    refine g_iald C dX11_count_71 zz6 (vp_lit (by decide +kernel)) ?_
    exact g_iret C dX11_count_72 hr ⟨hw, rfl, rfl, rfl, hWF⟩
  by_cases c7 : x1 = 3
  · have hw := hw.2.2.2.1 c7
    refine g_tableIn (tgt := 73) C dX11_count_1 (by rw [c7]; decide) (by rw [c7]; decide) (by rw [c7]; rfl) (by decide) ?_
    refine g_aload_n C dX11_count_73 rfl 0 rfl ?_
    refine g_getQ C dX11_count_74 ft_363 z0 (hWF.q z0 0 rfl) ?_
    have zz8 := hWF.r z0 0 rfl
    refine g_iconst (v := (3 : Int32)) C dX11_count_77 (by decide) ?_
    refine g_iald C dX11_count_78 zz8 (vp_lit (by decide +kernel)) ?_
    exact g_iret C dX11_count_79 hr ⟨hw, rfl, rfl, rfl, hWF⟩
  by_cases c9 : x1 = 4
  · have hw := hw.2.2.2.2.1 c9
    refine g_tableIn (tgt := 80) C dX11_count_1 (by rw [c9]; decide) (by rw [c9]; decide) (by rw [c9]; rfl) (by decide) ?_
    refine g_aload_n C dX11_count_80 rfl 0 rfl ?_
    refine g_getQ C dX11_count_81 ft_363 z0 (hWF.q z0 0 rfl) ?_
    have zz10 := hWF.r z0 0 rfl
    refine g_iconst (v := (4 : Int32)) C dX11_count_84 (by decide) ?_
    refine g_iald C dX11_count_85 zz10 (vp_lit (by decide +kernel)) ?_
    exact g_iret C dX11_count_86 hr ⟨hw, rfl, rfl, rfl, hWF⟩
  by_cases c11 : x1 = 5
  · have hw := hw.2.2.2.2.2.1 c11
    refine g_tableIn (tgt := 87) C dX11_count_1 (by rw [c11]; decide) (by rw [c11]; decide) (by rw [c11]; rfl) (by decide) ?_
    refine g_aload_n C dX11_count_87 rfl 0 rfl ?_
    refine g_getQ C dX11_count_88 ft_363 z0 (hWF.q z0 0 rfl) ?_
    have zz12 := hWF.r z0 0 rfl
    refine g_bipush (v := (6 : Int32)) C dX11_count_91 (by decide) ?_
    refine g_iald C dX11_count_93 zz12 (vp_lit (by decide +kernel)) ?_
    exact g_iret C dX11_count_94 hr ⟨hw, rfl, rfl, rfl, hWF⟩
  by_cases c13 : x1 = 6
  · have hw := hw.2.2.2.2.2.2.1 c13
    refine g_tableIn (tgt := 95) C dX11_count_1 (by rw [c13]; decide) (by rw [c13]; decide) (by rw [c13]; rfl) (by decide) ?_
    refine g_aload_n C dX11_count_95 rfl 0 rfl ?_
    refine g_callVi (As := []) C dX11_count_96 ft_387 z0 ft_438 ft_439 (met_X11_ranks l hWF z0 hw) ⟨rfl, rfl, Nat.le_of_ble_eq_true rfl, Nat.le_of_ble_eq_true rfl⟩ ⟨Nat.zero_le _, Nat.zero_le _⟩ rfl rfl (Nat.le_of_ble_eq_true rfl) (fun r14 I14 J14 Q14 hp => ?_)
    obtain ⟨hw, eI, eJ, eQ, hWF⟩ := hp
    have eI : I = I14 := Eq.symm eI
    subst eI
    have eJ : J = J14 := Eq.symm eJ
    subst eJ
    have eQ : Q = Q14 := Eq.symm eQ
    subst eQ
    try dsimp only at hw hWF
    exact g_iret C dX11_count_99 hr ⟨hw, rfl, rfl, rfl, hWF⟩
  by_cases c15 : x1 = 7
  · have hw := hw.2.2.2.2.2.2.2.1 c15
    refine g_tableIn (tgt := 100) C dX11_count_1 (by rw [c15]; decide) (by rw [c15]; decide) (by rw [c15]; rfl) (by decide) ?_
    refine g_aload_n C dX11_count_100 rfl 0 rfl ?_
    refine g_callVi (As := []) C dX11_count_101 ft_387 z0 ft_440 ft_441 (met_X11_whole l hWF z0 hw) ⟨rfl, rfl, Nat.le_of_ble_eq_true rfl, Nat.le_of_ble_eq_true rfl⟩ ⟨Nat.zero_le _, Nat.zero_le _⟩ rfl rfl (Nat.le_of_ble_eq_true rfl) (fun r16 I16 J16 Q16 hp => ?_)
    obtain ⟨hw, eI, eJ, eQ, hWF⟩ := hp
    have eI : I = I16 := Eq.symm eI
    subst eI
    have eJ : J = J16 := Eq.symm eJ
    subst eJ
    have eQ : Q = Q16 := Eq.symm eQ
    subst eQ
    try dsimp only at hw hWF
    exact g_iret C dX11_count_104 hr ⟨hw, rfl, rfl, rfl, hWF⟩
  by_cases c17 : x1 = 8
  · have hw := hw.2.2.2.2.2.2.2.2.1 c17
    refine g_tableIn (tgt := 105) C dX11_count_1 (by rw [c17]; decide) (by rw [c17]; decide) (by rw [c17]; rfl) (by decide) ?_
    refine g_aload_n C dX11_count_105 rfl 0 rfl ?_
    refine g_getI C dX11_count_106 ft_370 z0 ?_
    exact g_iret C dX11_count_109 hr ⟨hw, rfl, rfl, rfl, hWF⟩
  have hw := hw.2.2.2.2.2.2.2.2.2 c1 c3 c5 c7 c9 c11 c13 c15 c17
  refine g_tableOut (tgt := 110) C dX11_count_1 (sw_out (fun v h1 h2 => by rcases (show v = 0 ∨ v = 1 ∨ v = 2 ∨ v = 3 ∨ v = 4 ∨ v = 5 ∨ v = 6 ∨ v = 7 ∨ v = 8 by omega) with rfl | rfl | rfl | rfl | rfl | rfl | rfl | rfl | rfl <;> first | exact c1 | exact c3 | exact c5 | exact c7 | exact c9 | exact c11 | exact c13 | exact c15 | exact c17)) (by decide) ?_
  refine g_iconst (v := (-1 : Int32)) C dX11_count_110 (by decide) ?_
  exact g_iret C dX11_count_111 hr ⟨hw, rfl, rfl, rfl, hWF⟩
