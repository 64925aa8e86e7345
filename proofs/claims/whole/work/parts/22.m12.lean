def wp_X11_drift_L16 (Qf_3 : KQ) (f0_3 : Nat) (f1_3 : Int32) (k134 : KI → Prop) : Nat → KI → Int32 → Prop
  | 0, _, _ => False
  | n16 + 1, I_3, x2_3 => ((f1_3 ≤ x2_3 → k134 I_3) ∧ (¬ f1_3 ≤ x2_3 → wp_X11_remembers I_3 Qf_3 f0_3 (fun I5 => wp_X11_goesOn (I5 (rq Qf_3 f0_3 0) (5 : Int32).toNatClampNeg) (fun r8 => ((((((sti I5 (rq Qf_3 f0_3 0) (5 : Int32).toNatClampNeg r8) (rq Qf_3 f0_3 0) (5 : Int32).toNatClampNeg) / (65536 : Int32)) - (((sti I5 (rq Qf_3 f0_3 0) (5 : Int32).toNatClampNeg r8) (rq Qf_3 f0_3 0) (5 : Int32).toNatClampNeg) / (65536 : Int32)) / (4 : Int32) * (4 : Int32)) = 0 → wp_X11_goes (sti I5 (rq Qf_3 f0_3 0) (5 : Int32).toNatClampNeg r8) Qf_3 f0_3 (fun I11 => wp_X11_drift_L16 Qf_3 f0_3 f1_3 k134 n16 I11 (x2_3 + (1 : Int32)))) ∧ (((((sti I5 (rq Qf_3 f0_3 0) (5 : Int32).toNatClampNeg r8) (rq Qf_3 f0_3 0) (5 : Int32).toNatClampNeg) / (65536 : Int32)) - (((sti I5 (rq Qf_3 f0_3 0) (5 : Int32).toNatClampNeg r8) (rq Qf_3 f0_3 0) (5 : Int32).toNatClampNeg) / (65536 : Int32)) / (4 : Int32) * (4 : Int32)) = 3 → wp_X11_drift_L16 Qf_3 f0_3 f1_3 k134 n16 (sti (sti I5 (rq Qf_3 f0_3 0) (5 : Int32).toNatClampNeg r8) (rq Qf_3 f0_3 0) (2 : Int32).toNatClampNeg (((((sti I5 (rq Qf_3 f0_3 0) (5 : Int32).toNatClampNeg r8) (rq Qf_3 f0_3 0) (5 : Int32).toNatClampNeg) / (65536 : Int32)) / (4 : Int32)) - ((((sti I5 (rq Qf_3 f0_3 0) (5 : Int32).toNatClampNeg r8) (rq Qf_3 f0_3 0) (5 : Int32).toNatClampNeg) / (65536 : Int32)) / (4 : Int32)) / (4 : Int32) * (4 : Int32))) (x2_3 + (1 : Int32))) ∧ (¬ ((((sti I5 (rq Qf_3 f0_3 0) (5 : Int32).toNatClampNeg r8) (rq Qf_3 f0_3 0) (5 : Int32).toNatClampNeg) / (65536 : Int32)) - (((sti I5 (rq Qf_3 f0_3 0) (5 : Int32).toNatClampNeg r8) (rq Qf_3 f0_3 0) (5 : Int32).toNatClampNeg) / (65536 : Int32)) / (4 : Int32) * (4 : Int32)) = 0 → ¬ ((((sti I5 (rq Qf_3 f0_3 0) (5 : Int32).toNatClampNeg r8) (rq Qf_3 f0_3 0) (5 : Int32).toNatClampNeg) / (65536 : Int32)) - (((sti I5 (rq Qf_3 f0_3 0) (5 : Int32).toNatClampNeg r8) (rq Qf_3 f0_3 0) (5 : Int32).toNatClampNeg) / (65536 : Int32)) / (4 : Int32) * (4 : Int32)) = 3 → (¬ ((sti I5 (rq Qf_3 f0_3 0) (5 : Int32).toNatClampNeg r8) (rq Qf_3 f0_3 0) (0 : Int32).toNatClampNeg) = 0 ∧ (¬ ((sti I5 (rq Qf_3 f0_3 0) (5 : Int32).toNatClampNeg r8) (rq Qf_3 f0_3 0) (1 : Int32).toNatClampNeg) = 0 ∧ wp_X11_learns (sti I5 (rq Qf_3 f0_3 0) (5 : Int32).toNatClampNeg r8) Qf_3 f0_3 (((((sti I5 (rq Qf_3 f0_3 0) (5 : Int32).toNatClampNeg r8) (rq Qf_3 f0_3 0) (5 : Int32).toNatClampNeg) / (65536 : Int32)) / (4 : Int32)) - ((((sti I5 (rq Qf_3 f0_3 0) (5 : Int32).toNatClampNeg r8) (rq Qf_3 f0_3 0) (5 : Int32).toNatClampNeg) / (65536 : Int32)) / (4 : Int32)) / ((sti I5 (rq Qf_3 f0_3 0) (5 : Int32).toNatClampNeg r8) (rq Qf_3 f0_3 0) (0 : Int32).toNatClampNeg) * ((sti I5 (rq Qf_3 f0_3 0) (5 : Int32).toNatClampNeg r8) (rq Qf_3 f0_3 0) (0 : Int32).toNatClampNeg)) ((1 : Int32) <<< ((((((sti I5 (rq Qf_3 f0_3 0) (5 : Int32).toNatClampNeg r8) (rq Qf_3 f0_3 0) (5 : Int32).toNatClampNeg) / (65536 : Int32)) / (64 : Int32)) - ((((sti I5 (rq Qf_3 f0_3 0) (5 : Int32).toNatClampNeg r8) (rq Qf_3 f0_3 0) (5 : Int32).toNatClampNeg) / (65536 : Int32)) / (64 : Int32)) / ((sti I5 (rq Qf_3 f0_3 0) (5 : Int32).toNatClampNeg r8) (rq Qf_3 f0_3 0) (1 : Int32).toNatClampNeg) * ((sti I5 (rq Qf_3 f0_3 0) (5 : Int32).toNatClampNeg r8) (rq Qf_3 f0_3 0) (1 : Int32).toNatClampNeg)) &&& 31)) (fun I16 => wp_X11_drift_L16 Qf_3 f0_3 f1_3 k134 n16 I16 (x2_3 + (1 : Int32)))))))))))
def wp_X11_drift (I : KI) (Q : KQ) (h0 : Nat) (x1 : Int32) (post : Int32 → KI → Prop) : Prop := wp_X11_in (x1.toInt64) (1 : Int64) (40 : Int64) (fun r1 => ((¬ r1 = 0 → (∃ q16, wp_X11_drift_L16 Q h0 x1 (fun I_18 => wp_X11_ranks I_18 Q h0 (fun r19 => post r19 I_18)) q16 I (0 : Int32))) ∧ (r1 = 0 → post (-1 : Int32) I)))
set_option maxHeartbeats 4000000 in
set_option maxRecDepth 100000 in
theorem met_X11_drift {Z : Nat → Prop} {A : Nat → Prop} {D : va_G} {D2 : Nat → ClassId} {ad : Nat → Nat} {N : Nat} {T : Nat → Nat × Nat} (l : Launch) {I : KI} {J : KJ} {Q : KQ} {h0 : Nat} {x1 : Int32} {post : Int32 → KI → Prop} (hWF : WF Z N T Q) (z0 : OKr Z N T h0 (11, 0)) (hw : wp_X11_drift I Q h0 x1 post) : Met l yX11_drift (.code yX11_drift cX11_drift 4 (some .int) :: BIG) ({ frames := 7, cells := 0, slots := 0, locals := 163 }) (Pr D D2 A ad N T I J Q [.ref (ad h0), .int x1]) (va_Qi (fun (r : Int32) (u : KS) => post r u.1 ∧ u.2.1 = J ∧ u.2.2 = Q ∧ WF Z N T u.2.2) (Bw D D2 ad N T) A) 0 0 A := by
  refine Met_GG (lv0 := [(0, .ref (ad h0)), (1, .int x1)]) (by decide +kernel) [.ref (ad h0), .int x1] (Nat.le_of_ble_eq_true rfl) rfl ?_
  intro p e s m below meth c C hr
  have C : CX p s m [.ref (ad h0), .int x1].toArray meth c cX11_drift 4 RX11 A D D2 := C
  unfold wp_X11_drift at hw
  refine g_iload_n C dX11_drift_0 rfl 1 rfl ?_
  refine g_i2l C dX11_drift_1 ?_
  refine g_lconst (v := (1 : Int64)) C dX11_drift_2 (by decide) ?_
  refine g_ldc2 C dX11_drift_3 ft_507 ?_
  refine g_callSi (As := [.long (x1.toInt64), .long (1 : Int64), .long (40 : Int64)]) C dX11_drift_6 ft_397 ft_398 (met_X11_in l hWF  hw) ⟨rfl, rfl, Nat.le_of_ble_eq_true rfl, Nat.le_of_ble_eq_true rfl⟩ ⟨Nat.zero_le _, Nat.zero_le _⟩ rfl rfl (Nat.le_of_ble_eq_true rfl) (fun r1 I1 J1 Q1 hp => ?_)
  obtain ⟨hw, eI, eJ, eQ, hWF⟩ := hp
  have eI : I = I1 := Eq.symm eI
  subst eI
  have eJ : J = J1 := Eq.symm eJ
  subst eJ
  have eQ : Q = Q1 := Eq.symm eQ
  subst eQ
  try dsimp only at hw hWF
  refine g_if_ne (tgt := 14) C dX11_drift_9 (by decide) (fun c2 => ?_) (fun c2 => ?_)
  · have hw := hw.1 c2
    refine g_iconst (v := (0 : Int32)) C dX11_drift_14 (by decide) ?_
    refine g_istore_n (lv' := [(2, .int (0 : Int32)), (0, .ref (ad h0)), (1, .int x1)]) C dX11_drift_15 rfl (by decide) rfl ?_
    have K134_u17 : ∀ (I_18 : KI), (wp_X11_ranks I_18 Q h0 (fun r19 => post r19 I_18)) → WF Z N T Q → GG p l e ({ frames := 7, cells := 0, slots := 0, locals := 163 }) s m [.ref (ad h0), .int x1].toArray below meth c 4 A D D2 0 0 (MQ below (va_Qi (fun (r : Int32) (u : KS) => post r u.1 ∧ u.2.1 = J ∧ u.2.2 = Q ∧ WF Z N T u.2.2) (Bw D D2 ad N T) A) [.ref (ad h0), .int x1].toArray s 0 0 A) ad N T I_18 J Q 134 [(0, .ref (ad h0))] [] := by
      intro I_18 hw hWF
      refine g_aload_n C dX11_drift_134 rfl 0 rfl ?_
      refine g_callVi (As := []) C dX11_drift_135 ft_387 z0 ft_438 ft_439 (met_X11_ranks l hWF z0 hw) ⟨rfl, rfl, Nat.le_of_ble_eq_true rfl, Nat.le_of_ble_eq_true rfl⟩ ⟨Nat.zero_le _, Nat.zero_le _⟩ rfl rfl (Nat.le_of_ble_eq_true rfl) (fun r19 I19 J19 Q19 hp => ?_)
      obtain ⟨hw, eI, eJ, eQ, hWF⟩ := hp
      have eI : I_18 = I19 := Eq.symm eI
      subst eI
      have eJ : J = J19 := Eq.symm eJ
      subst eJ
      have eQ : Q = Q19 := Eq.symm eQ
      subst eQ
      try dsimp only at hw hWF
      exact g_iret C dX11_drift_138 hr ⟨hw, rfl, rfl, hWF⟩
    have L16_u17 : ∀ (n16 : Nat) (I_3 : KI) (x2_3 : Int32), wp_X11_drift_L16 Q h0 x1 (fun I_18 => wp_X11_ranks I_18 Q h0 (fun r19 => post r19 I_18)) n16 I_3 x2_3 → WF Z N T Q → GG p l e ({ frames := 7, cells := 0, slots := 0, locals := 163 }) s m [.ref (ad h0), .int x1].toArray below meth c 4 A D D2 0 0 (MQ below (va_Qi (fun (r : Int32) (u : KS) => post r u.1 ∧ u.2.1 = J ∧ u.2.2 = Q ∧ WF Z N T u.2.2) (Bw D D2 ad N T) A) [.ref (ad h0), .int x1].toArray s 0 0 A) ad N T I_3 J Q 16 [(0, .ref (ad h0)), (1, .int x1), (2, .int x2_3)] [] := by
      intro n16
      induction n16 with
      | zero => intro I_3 x2_3 hw; exact hw.elim
      | succ n16 ih_u17 =>
        intro I_3 x2_3 hw hWF
        unfold wp_X11_drift_L16 at hw
        refine g_iload_n C dX11_drift_16 rfl 2 rfl ?_
        refine g_iload_n C dX11_drift_17 rfl 1 rfl ?_
        refine g_icmp_ge (tgt := 134) C dX11_drift_18 (by decide) (fun c21 => ?_) (fun c21 => ?_)
        · have hw := hw.1 c21
          refine g_sub [0] rfl ?_
          exact K134_u17 I_3 hw hWF
        · have hw := hw.2 c21
          refine g_aload_n C dX11_drift_21 rfl 0 rfl ?_
          refine g_callVv (As := []) C dX11_drift_22 ft_387 z0 ft_430 ft_431 (met_X11_remembers l hWF z0 hw) ⟨rfl, rfl, Nat.le_of_ble_eq_true rfl, Nat.le_of_ble_eq_true rfl⟩ ⟨Nat.zero_le _, Nat.zero_le _⟩ rfl rfl (Nat.le_of_ble_eq_true rfl) (fun I22 J22 Q22 hp => ?_)
          obtain ⟨hw, eJ, eQ, hWF⟩ := hp
          have eJ : J = J22 := Eq.symm eJ
          subst eJ
          have eQ : Q = Q22 := Eq.symm eQ
          subst eQ
          try dsimp only at hw hWF
          refine g_aload_n C dX11_drift_25 rfl 0 rfl ?_
          refine g_getQ C dX11_drift_26 ft_363 z0 (hWF.q z0 0 rfl) ?_
          have zz23 := hWF.r z0 0 rfl
          refine g_iconst (v := (5 : Int32)) C dX11_drift_29 (by decide) ?_
          refine g_aload_n C dX11_drift_30 rfl 0 rfl ?_
          refine g_getQ C dX11_drift_31 ft_363 z0 (hWF.q z0 0 rfl) ?_
          have zz24 := hWF.r z0 0 rfl
          refine g_iconst (v := (5 : Int32)) C dX11_drift_34 (by decide) ?_
          refine g_iald C dX11_drift_35 zz24 (vp_lit (by decide +kernel)) ?_
          refine g_callSi (As := [.int (I22 (rq Q h0 0) (5 : Int32).toNatClampNeg)]) C dX11_drift_36 ft_411 ft_412 (met_X11_goesOn l hWF  hw) ⟨rfl, rfl, Nat.le_of_ble_eq_true rfl, Nat.le_of_ble_eq_true rfl⟩ ⟨Nat.zero_le _, Nat.zero_le _⟩ rfl rfl (Nat.le_of_ble_eq_true rfl) (fun r25 I25 J25 Q25 hp => ?_)
          obtain ⟨hw, eI, eJ, eQ, hWF⟩ := hp
          have eI : I22 = I25 := Eq.symm eI
          subst eI
          have eJ : J = J25 := Eq.symm eJ
          subst eJ
          have eQ : Q = Q25 := Eq.symm eQ
          subst eQ
          try dsimp only at hw hWF
          refine g_iast C dX11_drift_39 zz23 (vp_lit (by decide +kernel)) ?_
          refine g_aload_n C dX11_drift_40 rfl 0 rfl ?_
          refine g_getQ C dX11_drift_41 ft_363 z0 (hWF.q z0 0 rfl) ?_
          have zz26 := hWF.r z0 0 rfl
          refine g_iconst (v := (5 : Int32)) C dX11_drift_44 (by decide) ?_
          refine g_iald C dX11_drift_45 zz26 (vp_lit (by decide +kernel)) ?_
          refine g_ldc C dX11_drift_46 ft_408 ?_
          refine g_idiv C dX11_drift_48 (by decide) ?_
          refine g_istore_n (lv' := [(3, .int (((sti I22 (rq Q h0 0) (5 : Int32).toNatClampNeg r25) (rq Q h0 0) (5 : Int32).toNatClampNeg) / (65536 : Int32))), (0, .ref (ad h0)), (1, .int x1), (2, .int x2_3)]) C dX11_drift_49 rfl (by decide) rfl ?_
          refine g_iload_n C dX11_drift_50 rfl 0 rfl ?_
          refine g_iconst (v := (4 : Int32)) C dX11_drift_51 (by decide) ?_
          refine g_irem C dX11_drift_52 (by decide) ?_
          by_cases c27 : ((((sti I22 (rq Q h0 0) (5 : Int32).toNatClampNeg r25) (rq Q h0 0) (5 : Int32).toNatClampNeg) / (65536 : Int32)) - (((sti I22 (rq Q h0 0) (5 : Int32).toNatClampNeg r25) (rq Q h0 0) (5 : Int32).toNatClampNeg) / (65536 : Int32)) / (4 : Int32) * (4 : Int32)) = 0
          · have hw := hw.1 c27
            refine g_lookup (tgt := 80) C dX11_drift_53 (by decide) (by rw [c27] <;> rfl) (by decide) ?_
            refine g_aload_n C dX11_drift_80 rfl 1 rfl ?_
            refine g_callVv (As := []) C dX11_drift_81 ft_387 z0 ft_443 ft_444 (met_X11_goes l hWF z0 hw) ⟨rfl, rfl, Nat.le_of_ble_eq_true rfl, Nat.le_of_ble_eq_true rfl⟩ ⟨Nat.zero_le _, Nat.zero_le _⟩ rfl rfl (Nat.le_of_ble_eq_true rfl) (fun I28 J28 Q28 hp => ?_)
            obtain ⟨hw, eJ, eQ, hWF⟩ := hp
            have eJ : J = J28 := Eq.symm eJ
            subst eJ
            have eQ : Q = Q28 := Eq.symm eQ
            subst eQ
            try dsimp only at hw hWF
            refine g_goto C dX11_drift_84 (tgt := 128) (by decide) ?_
            refine g_iinc (v := (x2_3 + (1 : Int32))) (lv' := [(2, .int (x2_3 + (1 : Int32))), (3, .int (((sti I22 (rq Q h0 0) (5 : Int32).toNatClampNeg r25) (rq Q h0 0) (5 : Int32).toNatClampNeg) / (65536 : Int32))), (0, .ref (ad h0)), (1, .int x1)]) C dX11_drift_128 (q := 3) rfl rfl (by decide) rfl ?_
            refine g_goto C dX11_drift_131 (tgt := 16) (by decide) ?_
            refine g_sub [2, 3, 0] rfl ?_
            exact ih_u17 I28 (x2_3 + (1 : Int32)) hw hWF
          by_cases c29 : ((((sti I22 (rq Q h0 0) (5 : Int32).toNatClampNeg r25) (rq Q h0 0) (5 : Int32).toNatClampNeg) / (65536 : Int32)) - (((sti I22 (rq Q h0 0) (5 : Int32).toNatClampNeg r25) (rq Q h0 0) (5 : Int32).toNatClampNeg) / (65536 : Int32)) / (4 : Int32) * (4 : Int32)) = 3
          · have hw := hw.2.1 c29
            refine g_lookup (tgt := 87) C dX11_drift_53 (by decide) (by rw [c29] <;> rfl) (by decide) ?_
            refine g_aload_n C dX11_drift_87 rfl 1 rfl ?_
            refine g_getQ C dX11_drift_88 ft_363 z0 (hWF.q z0 0 rfl) ?_
            have zz30 := hWF.r z0 0 rfl
            refine g_iconst (v := (2 : Int32)) C dX11_drift_91 (by decide) ?_
            refine g_iload_n C dX11_drift_92 rfl 0 rfl ?_
            refine g_iconst (v := (4 : Int32)) C dX11_drift_93 (by decide) ?_
            refine g_idiv C dX11_drift_94 (by decide) ?_
            refine g_iconst (v := (4 : Int32)) C dX11_drift_95 (by decide) ?_
            refine g_irem C dX11_drift_96 (by decide) ?_
            refine g_iast C dX11_drift_97 zz30 (vp_lit (by decide +kernel)) ?_
            refine g_goto C dX11_drift_98 (tgt := 128) (by decide) ?_
            refine g_iinc (v := (x2_3 + (1 : Int32))) (lv' := [(2, .int (x2_3 + (1 : Int32))), (3, .int (((sti I22 (rq Q h0 0) (5 : Int32).toNatClampNeg r25) (rq Q h0 0) (5 : Int32).toNatClampNeg) / (65536 : Int32))), (0, .ref (ad h0)), (1, .int x1)]) C dX11_drift_128 (q := 3) rfl rfl (by decide) rfl ?_
            refine g_goto C dX11_drift_131 (tgt := 16) (by decide) ?_
            refine g_sub [2, 3, 0] rfl ?_
            exact ih_u17 (sti (sti I22 (rq Q h0 0) (5 : Int32).toNatClampNeg r25) (rq Q h0 0) (2 : Int32).toNatClampNeg (((((sti I22 (rq Q h0 0) (5 : Int32).toNatClampNeg r25) (rq Q h0 0) (5 : Int32).toNatClampNeg) / (65536 : Int32)) / (4 : Int32)) - ((((sti I22 (rq Q h0 0) (5 : Int32).toNatClampNeg r25) (rq Q h0 0) (5 : Int32).toNatClampNeg) / (65536 : Int32)) / (4 : Int32)) / (4 : Int32) * (4 : Int32))) (x2_3 + (1 : Int32)) hw hWF
          have hw := hw.2.2 c27 c29
          refine g_lookup (tgt := 101) C dX11_drift_53 (by decide) (lk_out c27 c29) (by decide) ?_
          refine g_aload_n C dX11_drift_101 rfl 1 rfl ?_
          refine g_iload_n C dX11_drift_102 rfl 0 rfl ?_
          refine g_iconst (v := (4 : Int32)) C dX11_drift_103 (by decide) ?_
          refine g_idiv C dX11_drift_104 (by decide) ?_
          refine g_aload_n C dX11_drift_105 rfl 1 rfl ?_
          refine g_getQ C dX11_drift_106 ft_363 z0 (hWF.q z0 0 rfl) ?_
          have zz31 := hWF.r z0 0 rfl
          refine g_iconst (v := (0 : Int32)) C dX11_drift_109 (by decide) ?_
          refine g_iald C dX11_drift_110 zz31 (vp_lit (by decide +kernel)) ?_
          refine g_irem C dX11_drift_111 hw.1 ?_
          have hw := hw.2
          refine g_iconst (v := (1 : Int32)) C dX11_drift_112 (by decide) ?_
          refine g_iload_n C dX11_drift_113 rfl 0 rfl ?_
          refine g_bipush (v := (64 : Int32)) C dX11_drift_114 (by decide) ?_
          refine g_idiv C dX11_drift_116 (by decide) ?_
          refine g_aload_n C dX11_drift_117 rfl 1 rfl ?_
          refine g_getQ C dX11_drift_118 ft_363 z0 (hWF.q z0 0 rfl) ?_
          have zz32 := hWF.r z0 0 rfl
          refine g_iconst (v := (1 : Int32)) C dX11_drift_121 (by decide) ?_
          refine g_iald C dX11_drift_122 zz32 (vp_lit (by decide +kernel)) ?_
          refine g_irem C dX11_drift_123 hw.1 ?_
          have hw := hw.2
          refine g_ishl C dX11_drift_124 ?_
          refine g_callVv (As := [.int (((((sti I22 (rq Q h0 0) (5 : Int32).toNatClampNeg r25) (rq Q h0 0) (5 : Int32).toNatClampNeg) / (65536 : Int32)) / (4 : Int32)) - ((((sti I22 (rq Q h0 0) (5 : Int32).toNatClampNeg r25) (rq Q h0 0) (5 : Int32).toNatClampNeg) / (65536 : Int32)) / (4 : Int32)) / ((sti I22 (rq Q h0 0) (5 : Int32).toNatClampNeg r25) (rq Q h0 0) (0 : Int32).toNatClampNeg) * ((sti I22 (rq Q h0 0) (5 : Int32).toNatClampNeg r25) (rq Q h0 0) (0 : Int32).toNatClampNeg)), .int ((1 : Int32) <<< ((((((sti I22 (rq Q h0 0) (5 : Int32).toNatClampNeg r25) (rq Q h0 0) (5 : Int32).toNatClampNeg) / (65536 : Int32)) / (64 : Int32)) - ((((sti I22 (rq Q h0 0) (5 : Int32).toNatClampNeg r25) (rq Q h0 0) (5 : Int32).toNatClampNeg) / (65536 : Int32)) / (64 : Int32)) / ((sti I22 (rq Q h0 0) (5 : Int32).toNatClampNeg r25) (rq Q h0 0) (1 : Int32).toNatClampNeg) * ((sti I22 (rq Q h0 0) (5 : Int32).toNatClampNeg r25) (rq Q h0 0) (1 : Int32).toNatClampNeg)) &&& 31))]) C dX11_drift_125 ft_387 z0 ft_421 ft_422 (met_X11_learns l hWF z0 hw) ⟨rfl, rfl, Nat.le_of_ble_eq_true rfl, Nat.le_of_ble_eq_true rfl⟩ ⟨Nat.zero_le _, Nat.zero_le _⟩ rfl rfl (Nat.le_of_ble_eq_true rfl) (fun I33 J33 Q33 hp => ?_)
          obtain ⟨hw, eJ, eQ, hWF⟩ := hp
          have eJ : J = J33 := Eq.symm eJ
          subst eJ
          have eQ : Q = Q33 := Eq.symm eQ
          subst eQ
          try dsimp only at hw hWF
          refine g_iinc (v := (x2_3 + (1 : Int32))) (lv' := [(2, .int (x2_3 + (1 : Int32))), (3, .int (((sti I22 (rq Q h0 0) (5 : Int32).toNatClampNeg r25) (rq Q h0 0) (5 : Int32).toNatClampNeg) / (65536 : Int32))), (0, .ref (ad h0)), (1, .int x1)]) C dX11_drift_128 (q := 3) rfl rfl (by decide) rfl ?_
          refine g_goto C dX11_drift_131 (tgt := 16) (by decide) ?_
          refine g_sub [2, 3, 0] rfl ?_
          exact ih_u17 I33 (x2_3 + (1 : Int32)) hw hWF
    obtain ⟨n_u17, hw⟩ := hw
    refine g_sub [1, 2, 0] rfl ?_
    exact L16_u17 n_u17 I (0 : Int32) hw hWF
  · have hw := hw.2 c2
    refine g_iconst (v := (-1 : Int32)) C dX11_drift_12 (by decide) ?_
    exact g_iret C dX11_drift_13 hr ⟨hw, rfl, rfl, hWF⟩
def wp_X11_seed (I : KI) (Q : KQ) (h0 : Nat) (x1 : Int32) (post : Int32 → KI → Prop) : Prop := ((0 ≤ x1 → post (I (rq Q h0 0) (5 : Int32).toNatClampNeg) (sti I (rq Q h0 0) (5 : Int32).toNatClampNeg x1)) ∧ (¬ 0 ≤ x1 → post (-1 : Int32) I))
set_option maxHeartbeats 4000000 in
set_option maxRecDepth 100000 in
theorem met_X11_seed {Z : Nat → Prop} {A : Nat → Prop} {D : va_G} {D2 : Nat → ClassId} {ad : Nat → Nat} {N : Nat} {T : Nat → Nat × Nat} (l : Launch) {I : KI} {J : KJ} {Q : KQ} {h0 : Nat} {x1 : Int32} {post : Int32 → KI → Prop} (hWF : WF Z N T Q) (z0 : OKr Z N T h0 (11, 0)) (hw : wp_X11_seed I Q h0 x1 post) : Met l yX11_seed (.code yX11_seed cX11_seed 3 (some .int) :: BIG) ({ frames := 0, cells := 0, slots := 0, locals := 0 }) (Pr D D2 A ad N T I J Q [.ref (ad h0), .int x1]) (va_Qi (fun (r : Int32) (u : KS) => post r u.1 ∧ u.2.1 = J ∧ u.2.2 = Q ∧ WF Z N T u.2.2) (Bw D D2 ad N T) A) 0 0 A := by
  refine Met_GG (lv0 := [(0, .ref (ad h0)), (1, .int x1)]) (by decide +kernel) [.ref (ad h0), .int x1] (Nat.le_of_ble_eq_true rfl) rfl ?_
  intro p e s m below meth c C hr
  have C : CX p s m [.ref (ad h0), .int x1].toArray meth c cX11_seed 3 RX11 A D D2 := C
  unfold wp_X11_seed at hw
  refine g_iload_n C dX11_seed_0 rfl 1 rfl ?_
  refine g_if_ge (tgt := 6) C dX11_seed_1 (by decide) (fun c1 => ?_) (fun c1 => ?_)
  · have hw := hw.1 c1
    refine g_aload_n C dX11_seed_6 rfl 0 rfl ?_
    refine g_getQ C dX11_seed_7 ft_363 z0 (hWF.q z0 0 rfl) ?_
    have zz2 := hWF.r z0 0 rfl
    refine g_iconst (v := (5 : Int32)) C dX11_seed_10 (by decide) ?_
    refine g_iald C dX11_seed_11 zz2 (vp_lit (by decide +kernel)) ?_
    refine g_istore_n (lv' := [(2, .int (I (rq Q h0 0) (5 : Int32).toNatClampNeg)), (0, .ref (ad h0)), (1, .int x1)]) C dX11_seed_12 rfl (by decide) rfl ?_
    refine g_aload_n C dX11_seed_13 rfl 1 rfl ?_
    refine g_getQ C dX11_seed_14 ft_363 z0 (hWF.q z0 0 rfl) ?_
    have zz3 := hWF.r z0 0 rfl
    refine g_iconst (v := (5 : Int32)) C dX11_seed_17 (by decide) ?_
    refine g_iload_n C dX11_seed_18 rfl 2 rfl ?_
    refine g_iast C dX11_seed_19 zz3 (vp_lit (by decide +kernel)) ?_
    refine g_iload_n C dX11_seed_20 rfl 0 rfl ?_
    exact g_iret C dX11_seed_21 hr ⟨hw, rfl, rfl, hWF⟩
  · have hw := hw.2 c1
    refine g_iconst (v := (-1 : Int32)) C dX11_seed_4 (by decide) ?_
    exact g_iret C dX11_seed_5 hr ⟨hw, rfl, rfl, hWF⟩
def wp_X11_isSheet  (x0 : Int32) (post : Int32 → Prop) : Prop := wp_X11_in (x0.toInt64) (0 : Int64) (3 : Int64) (fun r1 => ((r1 = 0 ∨ r1 = 1) ∧ post r1))
set_option maxHeartbeats 4000000 in
set_option maxRecDepth 100000 in
theorem met_X11_isSheet {Z : Nat → Prop} {A : Nat → Prop} {D : va_G} {D2 : Nat → ClassId} {ad : Nat → Nat} {N : Nat} {T : Nat → Nat × Nat} (l : Launch) {I : KI} {J : KJ} {Q : KQ} {x0 : Int32} {post : Int32 → Prop} (hWF : WF Z N T Q)  (hw : wp_X11_isSheet x0 post) : Met l yX11_isSheet (.code yX11_isSheet cX11_isSheet 1 (some .boolean) :: BIG) ({ frames := 1, cells := 0, slots := 0, locals := 25 }) (Pr D D2 A ad N T I J Q [.int x0]) (va_Qi (fun (r : Int32) (u : KS) => post r ∧ u.1 = I ∧ u.2.1 = J ∧ u.2.2 = Q ∧ WF Z N T u.2.2) (Bw D D2 ad N T) A) 0 0 A := by
  refine Met_GG (lv0 := [(0, .int x0)]) (by decide +kernel) [.int x0] (Nat.le_of_ble_eq_true rfl) rfl ?_
  intro p e s m below meth c C hr
  have C : CX p s m [.int x0].toArray meth c cX11_isSheet 1 RX11 A D D2 := C
  unfold wp_X11_isSheet at hw
  refine g_iload_n C dX11_isSheet_0 rfl 0 rfl ?_
  refine g_i2l C dX11_isSheet_1 ?_
  refine g_lconst (v := (0 : Int64)) C dX11_isSheet_2 (by decide) ?_
  refine g_ldc2 C dX11_isSheet_3 ft_471 ?_
  refine g_callSi (As := [.long (x0.toInt64), .long (0 : Int64), .long (3 : Int64)]) C dX11_isSheet_6 ft_397 ft_398 (met_X11_in l hWF  hw) ⟨rfl, rfl, Nat.le_of_ble_eq_true rfl, Nat.le_of_ble_eq_true rfl⟩ ⟨Nat.zero_le _, Nat.zero_le _⟩ rfl rfl (Nat.le_of_ble_eq_true rfl) (fun r1 I1 J1 Q1 hp => ?_)
  obtain ⟨hw, eI, eJ, eQ, hWF⟩ := hp
  have eI : I = I1 := Eq.symm eI
  subst eI
  have eJ : J = J1 := Eq.symm eJ
  subst eJ
  have eQ : Q = Q1 := Eq.symm eQ
  subst eQ
  try dsimp only at hw hWF
  exact g_zret C dX11_isSheet_9 hr (nar_b hw.1) ⟨hw.2, rfl, rfl, rfl, hWF⟩
def wp_X11_cut  (x0 : Int32) (x1 : Int64) (post : Int64 → Prop) : Prop := ((¬ x0 = 0 → ((¬ x0 = (1 : Int32) → ((¬ x0 = (2 : Int32) → post x1) ∧ (x0 = (2 : Int32) → post ((x1.toInt32).toInt64)))) ∧ (x0 = (1 : Int32) → post (((x1.toInt32).toInt16.toInt32).toInt64)))) ∧ (x0 = 0 → post (((x1.toInt32).toInt8.toInt32).toInt64)))
set_option maxHeartbeats 4000000 in
set_option maxRecDepth 100000 in
theorem met_X11_cut {Z : Nat → Prop} {A : Nat → Prop} {D : va_G} {D2 : Nat → ClassId} {ad : Nat → Nat} {N : Nat} {T : Nat → Nat × Nat} (l : Launch) {I : KI} {J : KJ} {Q : KQ} {x0 : Int32} {x1 : Int64} {post : Int64 → Prop} (hWF : WF Z N T Q)  (hw : wp_X11_cut x0 x1 post) : Met l yX11_cut (.code yX11_cut cX11_cut 3 (some .long) :: BIG) ({ frames := 0, cells := 0, slots := 0, locals := 0 }) (Pr D D2 A ad N T I J Q [.int x0, .long x1]) (va_Ql (fun (r : Int64) (u : KS) => post r ∧ u.1 = I ∧ u.2.1 = J ∧ u.2.2 = Q ∧ WF Z N T u.2.2) (Bw D D2 ad N T) A) 0 0 A := by
  refine Met_GG (lv0 := [(0, .int x0), (1, .long x1)]) (by decide +kernel) [.int x0, .long x1] (Nat.le_of_ble_eq_true rfl) rfl ?_
  intro p e s m below meth c C hr
  have C : CX p s m [.int x0, .long x1].toArray meth c cX11_cut 3 RX11 A D D2 := C
  unfold wp_X11_cut at hw
  refine g_iload_n C dX11_cut_0 rfl 0 rfl ?_
  refine g_if_ne (tgt := 11) C dX11_cut_1 (by decide) (fun c1 => ?_) (fun c1 => ?_)
  · have hw := hw.1 c1
    refine g_iload_n C dX11_cut_11 rfl 0 rfl ?_
    refine g_iconst (v := (1 : Int32)) C dX11_cut_12 (by decide) ?_
    refine g_icmp_ne (tgt := 23) C dX11_cut_13 (by decide) (fun c2 => ?_) (fun c2 => ?_)
    · have hw := hw.1 c2
      refine g_iload_n C dX11_cut_23 rfl 0 rfl ?_
      refine g_iconst (v := (2 : Int32)) C dX11_cut_24 (by decide) ?_
      refine g_icmp_ne (tgt := 34) C dX11_cut_25 (by decide) (fun c3 => ?_) (fun c3 => ?_)
      · have hw := hw.1 c3
        refine g_lload_n C dX11_cut_34 rfl 1 rfl ?_
        exact g_lret C dX11_cut_35 hr ⟨hw, rfl, rfl, rfl, hWF⟩
      · have hw := hw.2 c3
        refine g_lload_n C dX11_cut_28 rfl 1 rfl ?_
        refine g_l2i C dX11_cut_29 ?_
        refine g_i2l C dX11_cut_30 ?_
        refine g_goto C dX11_cut_31 (tgt := 35) (by decide) ?_
        exact g_lret C dX11_cut_35 hr ⟨hw, rfl, rfl, rfl, hWF⟩
    · have hw := hw.2 c2
      refine g_lload_n C dX11_cut_16 rfl 1 rfl ?_
      refine g_l2i C dX11_cut_17 ?_
      refine g_i2s C dX11_cut_18 ?_
      refine g_i2l C dX11_cut_19 ?_
      refine g_goto C dX11_cut_20 (tgt := 35) (by decide) ?_
      exact g_lret C dX11_cut_35 hr ⟨hw, rfl, rfl, rfl, hWF⟩
  · have hw := hw.2 c1
    refine g_lload_n C dX11_cut_4 rfl 1 rfl ?_
    refine g_l2i C dX11_cut_5 ?_
    refine g_i2b C dX11_cut_6 ?_
    refine g_i2l C dX11_cut_7 ?_
    refine g_goto C dX11_cut_8 (tgt := 35) (by decide) ?_
    exact g_lret C dX11_cut_35 hr ⟨hw, rfl, rfl, rfl, hWF⟩
def wp_X11_why (I : KI) (Q : KQ) (h0 : Nat) (x1 : Int32) (x2 : Int32) (x3 : Int32) (x4 : Int32) (post : Int32 → Prop) : Prop := (vp_in x1 4 ∧ ((0 ≤ (I (rq Q h0 25) x1.toNatClampNeg) → (vp_in x1 4 ∧ (((I (rq Q h0 24) x1.toNatClampNeg) = x2 → ((x3 < 0 → post (-13 : Int32)) ∧ (¬ x3 < 0 → (vp_in x1 4 ∧ ((((I (rq Q h0 25) x1.toNatClampNeg) - x4) < x3 → post (-13 : Int32)) ∧ (¬ ((I (rq Q h0 25) x1.toNatClampNeg) - x4) < x3 → post (0 : Int32))))))) ∧ (¬ (I (rq Q h0 24) x1.toNatClampNeg) = x2 → post (-12 : Int32))))) ∧ (¬ 0 ≤ (I (rq Q h0 25) x1.toNatClampNeg) → post (-11 : Int32))))
set_option maxHeartbeats 4000000 in
set_option maxRecDepth 100000 in
theorem met_X11_why {Z : Nat → Prop} {A : Nat → Prop} {D : va_G} {D2 : Nat → ClassId} {ad : Nat → Nat} {N : Nat} {T : Nat → Nat × Nat} (l : Launch) {I : KI} {J : KJ} {Q : KQ} {h0 : Nat} {x1 : Int32} {x2 : Int32} {x3 : Int32} {x4 : Int32} {post : Int32 → Prop} (hWF : WF Z N T Q) (z0 : OKr Z N T h0 (11, 0)) (hw : wp_X11_why I Q h0 x1 x2 x3 x4 post) : Met l yX11_why (.code yX11_why cX11_why 5 (some .int) :: BIG) ({ frames := 0, cells := 0, slots := 0, locals := 0 }) (Pr D D2 A ad N T I J Q [.ref (ad h0), .int x1, .int x2, .int x3, .int x4]) (va_Qi (fun (r : Int32) (u : KS) => post r ∧ u.1 = I ∧ u.2.1 = J ∧ u.2.2 = Q ∧ WF Z N T u.2.2) (Bw D D2 ad N T) A) 0 0 A := by
  refine Met_GG (lv0 := [(0, .ref (ad h0)), (1, .int x1), (2, .int x2), (3, .int x3), (4, .int x4)]) (by decide +kernel) [.ref (ad h0), .int x1, .int x2, .int x3, .int x4] (Nat.le_of_ble_eq_true rfl) rfl ?_
  intro p e s m below meth c C hr
  have C : CX p s m [.ref (ad h0), .int x1, .int x2, .int x3, .int x4].toArray meth c cX11_why 5 RX11 A D D2 := C
  unfold wp_X11_why at hw
  refine g_aload_n C dX11_why_0 rfl 0 rfl ?_
  refine g_getQ C dX11_why_1 ft_508 z0 (hWF.q z0 25 rfl) ?_
  have zz1 := hWF.r z0 25 rfl
  refine g_iload_n C dX11_why_4 rfl 1 rfl ?_
  refine g_iald C dX11_why_5 zz1 hw.1 ?_
  have hw := hw.2
  refine g_if_ge (tgt := 12) C dX11_why_6 (by decide) (fun c2 => ?_) (fun c2 => ?_)
  · have hw := hw.1 c2
    refine g_aload_n C dX11_why_12 rfl 0 rfl ?_
    refine g_getQ C dX11_why_13 ft_509 z0 (hWF.q z0 24 rfl) ?_
    have zz3 := hWF.r z0 24 rfl
    refine g_iload_n C dX11_why_16 rfl 1 rfl ?_
    refine g_iald C dX11_why_17 zz3 hw.1 ?_
    have hw := hw.2
    refine g_iload_n C dX11_why_18 rfl 2 rfl ?_
    refine g_icmp_eq (tgt := 25) C dX11_why_19 (by decide) (fun c4 => ?_) (fun c4 => ?_)
    · have hw := hw.1 c4
      refine g_iload_n C dX11_why_25 rfl 3 rfl ?_
      refine g_if_lt (tgt := 46) C dX11_why_26 (by decide) (fun c5 => ?_) (fun c5 => ?_)
      · have hw := hw.1 c5
        refine g_bipush (v := (-13 : Int32)) C dX11_why_46 (by decide) ?_
        exact g_iret C dX11_why_48 hr ⟨hw, rfl, rfl, rfl, hWF⟩
      · have hw := hw.2 c5
        refine g_iload_n C dX11_why_29 rfl 3 rfl ?_
        refine g_aload_n C dX11_why_30 rfl 0 rfl ?_
        refine g_getQ C dX11_why_31 ft_508 z0 (hWF.q z0 25 rfl) ?_
        have zz6 := hWF.r z0 25 rfl
        refine g_iload_n C dX11_why_34 rfl 1 rfl ?_
        refine g_iald C dX11_why_35 zz6 hw.1 ?_
        have hw := hw.2
        refine g_iload C dX11_why_36 4 rfl ?_
        refine g_isub C dX11_why_38 ?_
        refine g_icmp_gt (tgt := 46) C dX11_why_39 (by decide) (fun c7 => ?_) (fun c7 => ?_)
        · have hw := hw.1 c7
          refine g_bipush (v := (-13 : Int32)) C dX11_why_46 (by decide) ?_
          exact g_iret C dX11_why_48 hr ⟨hw, rfl, rfl, rfl, hWF⟩
        · have hw := hw.2 c7
          refine g_iconst (v := (0 : Int32)) C dX11_why_42 (by decide) ?_
          refine g_goto C dX11_why_43 (tgt := 48) (by decide) ?_
          exact g_iret C dX11_why_48 hr ⟨hw, rfl, rfl, rfl, hWF⟩
    · have hw := hw.2 c4
      refine g_bipush (v := (-12 : Int32)) C dX11_why_22 (by decide) ?_
      exact g_iret C dX11_why_24 hr ⟨hw, rfl, rfl, rfl, hWF⟩
  · have hw := hw.2 c2
    refine g_bipush (v := (-11 : Int32)) C dX11_why_9 (by decide) ?_
    exact g_iret C dX11_why_11 hr ⟨hw, rfl, rfl, rfl, hWF⟩
def wp_X11_could_L53 (If_8 : KI) (Jf_8 : KJ) (Qf_8 : KQ) (f0_8 : Nat) (f1_8 : Int32) (f3_8 : Int32) (k207 : Int32 → Int32 → Prop) : Nat → Int32 → Int32 → Int32 → Prop
  | 0, _, _, _ => False
  | n53 + 1, x5_8, x6_8, x7_8 => (((If_8 (rq Qf_8 f0_8 0) (0 : Int32).toNatClampNeg) ≤ x7_8 → k207 x5_8 x6_8) ∧ (¬ (If_8 (rq Qf_8 f0_8 0) (0 : Int32).toNatClampNeg) ≤ x7_8 → (vp_in ((((24 : Int32) * f1_8) + f3_8) + x7_8) 96 ∧ ((fun (k13 : Int32 → Prop) => ((x6_8 = 0 → k13 (0 : Int32)) ∧ (¬ x6_8 = 0 → (((lg_cmp (Jf_8 (rq Qf_8 f0_8 26) ((((24 : Int32) * f1_8) + f3_8) + x7_8).toNatClampNeg) (9 : Int64)) = 0 → k13 (1 : Int32)) ∧ (¬ (lg_cmp (Jf_8 (rq Qf_8 f0_8 26) ((((24 : Int32) * f1_8) + f3_8) + x7_8).toNatClampNeg) (9 : Int64)) = 0 → wp_X11_in (Jf_8 (rq Qf_8 f0_8 26) ((((24 : Int32) * f1_8) + f3_8) + x7_8).toNatClampNeg) (0 : Int64) (((If_8 (rq Qf_8 f0_8 0) (1 : Int32).toNatClampNeg) - (1 : Int32)).toInt64) (fun r16 => ((r16 = 0 → k13 (0 : Int32)) ∧ (¬ r16 = 0 → k13 (1 : Int32))))))))) (fun s0_13 => wp_X11_leastOf If_8 Qf_8 f0_8 x7_8 (fun r18 => ((fun (k20 : Int32 → Prop) => ((¬ r18 = (-4 : Int32) → wp_X11_leastOf If_8 Qf_8 f0_8 x7_8 (fun r21 => k20 r21)) ∧ (r18 = (-4 : Int32) → k20 (9 : Int32)))) (fun s0_20 => wp_X11_turnOf If_8 Qf_8 f0_8 x7_8 (fun r22 => ((fun (k24 : Int32 → Prop) => ((¬ r22 = (-4 : Int32) → wp_X11_turnOf If_8 Qf_8 f0_8 x7_8 (fun r25 => k24 r25)) ∧ (r22 = (-4 : Int32) → k24 (9 : Int32)))) (fun s0_24 => ((fun (k27 : Int32 → Prop) => ((¬ (lg_cmp (s0_20.toInt64) (Jf_8 (rq Qf_8 f0_8 26) ((((24 : Int32) * f1_8) + f3_8) + x7_8).toNatClampNeg)) = 0 → k27 (0 : Int32)) ∧ ((lg_cmp (s0_20.toInt64) (Jf_8 (rq Qf_8 f0_8 26) ((((24 : Int32) * f1_8) + f3_8) + x7_8).toNatClampNeg)) = 0 → k27 (1 : Int32)))) (fun s0_27 => ((fun (k29 : Int32 → Prop) => ((¬ (lg_cmp (s0_24.toInt64) (Jf_8 (rq Qf_8 f0_8 26) ((((24 : Int32) * f1_8) + f3_8) + x7_8).toNatClampNeg)) = 0 → k29 (0 : Int32)) ∧ ((lg_cmp (s0_24.toInt64) (Jf_8 (rq Qf_8 f0_8 26) ((((24 : Int32) * f1_8) + f3_8) + x7_8).toNatClampNeg)) = 0 → k29 (2 : Int32)))) (fun s0_29 => wp_X11_could_L53 If_8 Jf_8 Qf_8 f0_8 f1_8 f3_8 k207 n53 (x5_8 &&& (s0_27 ||| s0_29)) s0_13 (x7_8 + (1 : Int32)))))))))))))))))
def wp_X11_could (I : KI) (J : KJ) (Q : KQ) (h0 : Nat) (x1 : Int32) (x2 : Int32) (x3 : Int32) (post : Int32 → Prop) : Prop := wp_X11_isSheet x1 (fun r1 => ((r1 = 0 → post (-1 : Int32)) ∧ (¬ r1 = 0 → wp_X11_in (x2.toInt64) (0 : Int64) (3 : Int64) (fun r3 => ((¬ r3 = 0 → wp_X11_why I Q h0 x1 x2 x3 (I (rq Q h0 0) (0 : Int32).toNatClampNeg) (fun r6 => ((r6 = 0 → (∃ q53, wp_X11_could_L53 I J Q h0 x1 x3 (fun x5_31 x6_31 => ((fun (k33 : Int32 → Prop) => ((x6_31 = 0 → k33 (-2 : Int32)) ∧ (¬ x6_31 = 0 → k33 x5_31))) (fun s0_33 => post s0_33))) q53 (3 : Int32) (1 : Int32) (0 : Int32))) ∧ (¬ r6 = 0 → post r6)))) ∧ (r3 = 0 → post (-1 : Int32)))))))
set_option maxHeartbeats 4000000 in
set_option maxRecDepth 100000 in
theorem met_X11_could {Z : Nat → Prop} {A : Nat → Prop} {D : va_G} {D2 : Nat → ClassId} {ad : Nat → Nat} {N : Nat} {T : Nat → Nat × Nat} (l : Launch) {I : KI} {J : KJ} {Q : KQ} {h0 : Nat} {x1 : Int32} {x2 : Int32} {x3 : Int32} {post : Int32 → Prop} (hWF : WF Z N T Q) (z0 : OKr Z N T h0 (11, 0)) (hw : wp_X11_could I J Q h0 x1 x2 x3 post) : Met l yX11_could (.code yX11_could cX11_could 12 (some .int) :: BIG) ({ frames := 4, cells := 0, slots := 0, locals := 89 }) (Pr D D2 A ad N T I J Q [.ref (ad h0), .int x1, .int x2, .int x3]) (va_Qi (fun (r : Int32) (u : KS) => post r ∧ u.1 = I ∧ u.2.1 = J ∧ u.2.2 = Q ∧ WF Z N T u.2.2) (Bw D D2 ad N T) A) 0 0 A := by
  refine Met_GG (lv0 := [(0, .ref (ad h0)), (1, .int x1), (2, .int x2), (3, .int x3)]) (by decide +kernel) [.ref (ad h0), .int x1, .int x2, .int x3] (Nat.le_of_ble_eq_true rfl) rfl ?_
  intro p e s m below meth c C hr
  have C : CX p s m [.ref (ad h0), .int x1, .int x2, .int x3].toArray meth c cX11_could 12 RX11 A D D2 := C
  unfold wp_X11_could at hw
  refine g_iload_n C dX11_could_0 rfl 1 rfl ?_
  refine g_callSi (As := [.int x1]) C dX11_could_1 ft_513 ft_514 (met_X11_isSheet l hWF  hw) ⟨rfl, rfl, Nat.le_of_ble_eq_true rfl, Nat.le_of_ble_eq_true rfl⟩ ⟨Nat.zero_le _, Nat.zero_le _⟩ rfl rfl (Nat.le_of_ble_eq_true rfl) (fun r1 I1 J1 Q1 hp => ?_)
  obtain ⟨hw, eI, eJ, eQ, hWF⟩ := hp
  have eI : I = I1 := Eq.symm eI
  subst eI
  have eJ : J = J1 := Eq.symm eJ
  subst eJ
  have eQ : Q = Q1 := Eq.symm eQ
  subst eQ
  try dsimp only at hw hWF
  refine g_if_eq (tgt := 19) C dX11_could_4 (by decide) (fun c2 => ?_) (fun c2 => ?_)
  · have hw := hw.1 c2
    refine g_iconst (v := (-1 : Int32)) C dX11_could_19 (by decide) ?_
    exact g_iret C dX11_could_20 hr ⟨hw, rfl, rfl, rfl, hWF⟩
  · have hw := hw.2 c2
    refine g_iload_n C dX11_could_7 rfl 2 rfl ?_
    refine g_i2l C dX11_could_8 ?_
    refine g_lconst (v := (0 : Int64)) C dX11_could_9 (by decide) ?_
    refine g_ldc2 C dX11_could_10 ft_471 ?_
    refine g_callSi (As := [.long (x2.toInt64), .long (0 : Int64), .long (3 : Int64)]) C dX11_could_13 ft_397 ft_398 (met_X11_in l hWF  hw) ⟨rfl, rfl, Nat.le_of_ble_eq_true rfl, Nat.le_of_ble_eq_true rfl⟩ ⟨Nat.zero_le _, Nat.zero_le _⟩ rfl rfl (Nat.le_of_ble_eq_true rfl) (fun r3 I3 J3 Q3 hp => ?_)
    obtain ⟨hw, eI, eJ, eQ, hWF⟩ := hp
    have eI : I = I3 := Eq.symm eI
    subst eI
    have eJ : J = J3 := Eq.symm eJ
    subst eJ
    have eQ : Q = Q3 := Eq.symm eQ
    subst eQ
    try dsimp only at hw hWF
    refine g_if_ne (tgt := 21) C dX11_could_16 (by decide) (fun c4 => ?_) (fun c4 => ?_)
    · have hw := hw.1 c4
      refine g_aload_n C dX11_could_21 rfl 0 rfl ?_
      refine g_iload_n C dX11_could_22 rfl 1 rfl ?_
      refine g_iload_n C dX11_could_23 rfl 2 rfl ?_
      refine g_iload_n C dX11_could_24 rfl 3 rfl ?_
      refine g_aload_n C dX11_could_25 rfl 0 rfl ?_
      refine g_getQ C dX11_could_26 ft_363 z0 (hWF.q z0 0 rfl) ?_
      have zz5 := hWF.r z0 0 rfl
      refine g_iconst (v := (0 : Int32)) C dX11_could_29 (by decide) ?_
      refine g_iald C dX11_could_30 zz5 (vp_lit (by decide +kernel)) ?_
      refine g_callVi (As := [.int x1, .int x2, .int x3, .int (I (rq Q h0 0) (0 : Int32).toNatClampNeg)]) C dX11_could_31 ft_387 z0 ft_511 ft_512 (met_X11_why l hWF z0 hw) ⟨rfl, rfl, Nat.le_of_ble_eq_true rfl, Nat.le_of_ble_eq_true rfl⟩ ⟨Nat.zero_le _, Nat.zero_le _⟩ rfl rfl (Nat.le_of_ble_eq_true rfl) (fun r6 I6 J6 Q6 hp => ?_)
      obtain ⟨hw, eI, eJ, eQ, hWF⟩ := hp
      have eI : I = I6 := Eq.symm eI
      subst eI
      have eJ : J = J6 := Eq.symm eJ
      subst eJ
      have eQ : Q = Q6 := Eq.symm eQ
      subst eQ
      try dsimp only at hw hWF
      refine g_istore (lv' := [(4, .int r6), (0, .ref (ad h0)), (1, .int x1), (2, .int x2), (3, .int x3)]) C dX11_could_34 (by decide) rfl ?_
      refine g_iload C dX11_could_36 0 rfl ?_
      refine g_if_eq (tgt := 44) C dX11_could_38 (by decide) (fun c7 => ?_) (fun c7 => ?_)
      · have hw := hw.1 c7
        refine g_iconst (v := (3 : Int32)) C dX11_could_44 (by decide) ?_
        refine g_istore (lv' := [(5, .int (3 : Int32)), (4, .int r6), (0, .ref (ad h0)), (1, .int x1), (2, .int x2), (3, .int x3)]) C dX11_could_45 (by decide) rfl ?_
        refine g_iconst (v := (1 : Int32)) C dX11_could_47 (by decide) ?_
        refine g_istore (lv' := [(6, .int (1 : Int32)), (5, .int (3 : Int32)), (4, .int r6), (0, .ref (ad h0)), (1, .int x1), (2, .int x2), (3, .int x3)]) C dX11_could_48 (by decide) rfl ?_
        refine g_iconst (v := (0 : Int32)) C dX11_could_50 (by decide) ?_
        refine g_istore (lv' := [(7, .int (0 : Int32)), (6, .int (1 : Int32)), (5, .int (3 : Int32)), (4, .int r6), (0, .ref (ad h0)), (1, .int x1), (2, .int x2), (3, .int x3)]) C dX11_could_51 (by decide) rfl ?_
        have K207_u30 : ∀ (x5_31 : Int32) (x6_31 : Int32), (((fun (k33 : Int32 → Prop) => ((x6_31 = 0 → k33 (-2 : Int32)) ∧ (¬ x6_31 = 0 → k33 x5_31))) (fun s0_33 => post s0_33))) → WF Z N T Q → GG p l e ({ frames := 4, cells := 0, slots := 0, locals := 89 }) s m [.ref (ad h0), .int x1, .int x2, .int x3].toArray below meth c 12 A D D2 0 0 (MQ below (va_Qi (fun (r : Int32) (u : KS) => post r ∧ u.1 = I ∧ u.2.1 = J ∧ u.2.2 = Q ∧ WF Z N T u.2.2) (Bw D D2 ad N T) A) [.ref (ad h0), .int x1, .int x2, .int x3].toArray s 0 0 A) ad N T I J Q 207 [(5, .int x5_31), (6, .int x6_31)] [] := by
          intro x5_31 x6_31 hw hWF
          refine g_iload C dX11_could_207 1 rfl ?_
          have J33 : ∀ (s0_33 : Int32), (post s0_33) → WF Z N T Q → GG p l e ({ frames := 4, cells := 0, slots := 0, locals := 89 }) s m [.ref (ad h0), .int x1, .int x2, .int x3].toArray below meth c 12 A D D2 0 0 (MQ below (va_Qi (fun (r : Int32) (u : KS) => post r ∧ u.1 = I ∧ u.2.1 = J ∧ u.2.2 = Q ∧ WF Z N T u.2.2) (Bw D D2 ad N T) A) [.ref (ad h0), .int x1, .int x2, .int x3].toArray s 0 0 A) ad N T I J Q 219 [] [.int s0_33] := by
            intro s0_33 hw hWF
            exact g_iret C dX11_could_219 hr ⟨hw, rfl, rfl, rfl, hWF⟩
          refine g_if_eq (tgt := 217) C dX11_could_209 (by decide) (fun c32 => ?_) (fun c32 => ?_)
          · have hw := hw.1 c32
            refine g_bipush (v := (-2 : Int32)) C dX11_could_217 (by decide) ?_
            refine g_sub [] rfl ?_
            exact J33 (-2 : Int32) hw hWF
          · have hw := hw.2 c32
            refine g_iload C dX11_could_212 0 rfl ?_
            refine g_goto C dX11_could_214 (tgt := 219) (by decide) ?_
            refine g_sub [] rfl ?_
            exact J33 x5_31 hw hWF
        have L53_u30 : ∀ (n53 : Nat) (x5_8 : Int32) (x6_8 : Int32) (x7_8 : Int32), wp_X11_could_L53 I J Q h0 x1 x3 (fun x5_31 x6_31 => ((fun (k33 : Int32 → Prop) => ((x6_31 = 0 → k33 (-2 : Int32)) ∧ (¬ x6_31 = 0 → k33 x5_31))) (fun s0_33 => post s0_33))) n53 x5_8 x6_8 x7_8 → WF Z N T Q → GG p l e ({ frames := 4, cells := 0, slots := 0, locals := 89 }) s m [.ref (ad h0), .int x1, .int x2, .int x3].toArray below meth c 12 A D D2 0 0 (MQ below (va_Qi (fun (r : Int32) (u : KS) => post r ∧ u.1 = I ∧ u.2.1 = J ∧ u.2.2 = Q ∧ WF Z N T u.2.2) (Bw D D2 ad N T) A) [.ref (ad h0), .int x1, .int x2, .int x3].toArray s 0 0 A) ad N T I J Q 53 [(0, .ref (ad h0)), (1, .int x1), (3, .int x3), (5, .int x5_8), (6, .int x6_8), (7, .int x7_8)] [] := by
          intro n53
          induction n53 with
          | zero => intro x5_8 x6_8 x7_8 hw; exact hw.elim
          | succ n53 ih_u30 =>
            intro x5_8 x6_8 x7_8 hw hWF
            unfold wp_X11_could_L53 at hw
            refine g_iload C dX11_could_53 5 rfl ?_
            refine g_aload_n C dX11_could_55 rfl 0 rfl ?_
            refine g_getQ C dX11_could_56 ft_363 z0 (hWF.q z0 0 rfl) ?_
            have zz35 := hWF.r z0 0 rfl
            refine g_iconst (v := (0 : Int32)) C dX11_could_59 (by decide) ?_
            refine g_iald C dX11_could_60 zz35 (vp_lit (by decide +kernel)) ?_
            refine g_icmp_ge (tgt := 207) C dX11_could_61 (by decide) (fun c36 => ?_) (fun c36 => ?_)
            · have hw := hw.1 c36
              refine g_sub [3, 4] rfl ?_
              exact K207_u30 x5_8 x6_8 hw hWF
            · have hw := hw.2 c36
              refine g_aload_n C dX11_could_64 rfl 0 rfl ?_
              refine g_getQ C dX11_could_65 ft_510 z0 (hWF.q z0 26 rfl) ?_
              have zz37 := hWF.r z0 26 rfl
              refine g_bipush (v := (24 : Int32)) C dX11_could_68 (by decide) ?_
              refine g_iload_n C dX11_could_70 rfl 1 rfl ?_
              refine g_imul C dX11_could_71 ?_
              refine g_iload_n C dX11_could_72 rfl 2 rfl ?_
              refine g_iadd C dX11_could_73 ?_
              refine g_iload C dX11_could_74 5 rfl ?_
              refine g_iadd C dX11_could_76 ?_
              refine g_lald C dX11_could_77 zz37 hw.1 ?_
              have hw := hw.2
              refine g_lstore (lv' := [(8, .long (J (rq Q h0 26) ((((24 : Int32) * x1) + x3) + x7_8).toNatClampNeg)), (0, .ref (ad h0)), (1, .int x1), (3, .int x3), (5, .int x5_8), (6, .int x6_8), (7, .int x7_8)]) C dX11_could_78 (by decide) rfl ?_
              refine g_iload C dX11_could_80 5 rfl ?_
              have J39 : ∀ (s0_39 : Int32), (wp_X11_leastOf I Q h0 x7_8 (fun r44 => ((fun (k46 : Int32 → Prop) => ((¬ r44 = (-4 : Int32) → wp_X11_leastOf I Q h0 x7_8 (fun r47 => k46 r47)) ∧ (r44 = (-4 : Int32) → k46 (9 : Int32)))) (fun s0_46 => wp_X11_turnOf I Q h0 x7_8 (fun r48 => ((fun (k50 : Int32 → Prop) => ((¬ r48 = (-4 : Int32) → wp_X11_turnOf I Q h0 x7_8 (fun r51 => k50 r51)) ∧ (r48 = (-4 : Int32) → k50 (9 : Int32)))) (fun s0_50 => ((fun (k53 : Int32 → Prop) => ((¬ (lg_cmp (s0_46.toInt64) (J (rq Q h0 26) ((((24 : Int32) * x1) + x3) + x7_8).toNatClampNeg)) = 0 → k53 (0 : Int32)) ∧ ((lg_cmp (s0_46.toInt64) (J (rq Q h0 26) ((((24 : Int32) * x1) + x3) + x7_8).toNatClampNeg)) = 0 → k53 (1 : Int32)))) (fun s0_53 => ((fun (k55 : Int32 → Prop) => ((¬ (lg_cmp (s0_50.toInt64) (J (rq Q h0 26) ((((24 : Int32) * x1) + x3) + x7_8).toNatClampNeg)) = 0 → k55 (0 : Int32)) ∧ ((lg_cmp (s0_50.toInt64) (J (rq Q h0 26) ((((24 : Int32) * x1) + x3) + x7_8).toNatClampNeg)) = 0 → k55 (2 : Int32)))) (fun s0_55 => wp_X11_could_L53 I J Q h0 x1 x3 (fun x5_31 x6_31 => ((fun (k33 : Int32 → Prop) => ((x6_31 = 0 → k33 (-2 : Int32)) ∧ (¬ x6_31 = 0 → k33 x5_31))) (fun s0_33 => post s0_33))) n53 (x5_8 &&& (s0_53 ||| s0_55)) s0_39 (x7_8 + (1 : Int32))))))))))))) → WF Z N T Q → GG p l e ({ frames := 4, cells := 0, slots := 0, locals := 89 }) s m [.ref (ad h0), .int x1, .int x2, .int x3].toArray below meth c 12 A D D2 0 0 (MQ below (va_Qi (fun (r : Int32) (u : KS) => post r ∧ u.1 = I ∧ u.2.1 = J ∧ u.2.2 = Q ∧ WF Z N T u.2.2) (Bw D D2 ad N T) A) [.ref (ad h0), .int x1, .int x2, .int x3].toArray s 0 0 A) ad N T I J Q 117 [(0, .ref (ad h0)), (1, .int x1), (3, .int x3), (5, .int x5_8), (7, .int x7_8), (8, .long (J (rq Q h0 26) ((((24 : Int32) * x1) + x3) + x7_8).toNatClampNeg))] [.int s0_39] := by
                intro s0_39 hw hWF
                refine g_istore (lv' := [(6, .int s0_39), (0, .ref (ad h0)), (1, .int x1), (3, .int x3), (5, .int x5_8), (7, .int x7_8), (8, .long (J (rq Q h0 26) ((((24 : Int32) * x1) + x3) + x7_8).toNatClampNeg))]) C dX11_could_117 (by decide) rfl ?_
                refine g_aload_n C dX11_could_119 rfl 1 rfl ?_
                refine g_iload C dX11_could_120 5 rfl ?_
                refine g_callVi (As := [.int x7_8]) C dX11_could_122 ft_387 z0 ft_415 ft_416 (met_X11_leastOf l hWF z0 hw) ⟨rfl, rfl, Nat.le_of_ble_eq_true rfl, Nat.le_of_ble_eq_true rfl⟩ ⟨Nat.zero_le _, Nat.zero_le _⟩ rfl rfl (Nat.le_of_ble_eq_true rfl) (fun r44 I44 J44 Q44 hp => ?_)
                obtain ⟨hw, eI, eJ, eQ, hWF⟩ := hp
                have eI : I = I44 := Eq.symm eI
                subst eI
                have eJ : J = J44 := Eq.symm eJ
                subst eJ
                have eQ : Q = Q44 := Eq.symm eQ
                subst eQ
                try dsimp only at hw hWF
                refine g_bipush (v := (-4 : Int32)) C dX11_could_125 (by decide) ?_
                have J46 : ∀ (s0_46 : Int32), (wp_X11_turnOf I Q h0 x7_8 (fun r48 => ((fun (k50 : Int32 → Prop) => ((¬ r48 = (-4 : Int32) → wp_X11_turnOf I Q h0 x7_8 (fun r51 => k50 r51)) ∧ (r48 = (-4 : Int32) → k50 (9 : Int32)))) (fun s0_50 => ((fun (k53 : Int32 → Prop) => ((¬ (lg_cmp (s0_46.toInt64) (J (rq Q h0 26) ((((24 : Int32) * x1) + x3) + x7_8).toNatClampNeg)) = 0 → k53 (0 : Int32)) ∧ ((lg_cmp (s0_46.toInt64) (J (rq Q h0 26) ((((24 : Int32) * x1) + x3) + x7_8).toNatClampNeg)) = 0 → k53 (1 : Int32)))) (fun s0_53 => ((fun (k55 : Int32 → Prop) => ((¬ (lg_cmp (s0_50.toInt64) (J (rq Q h0 26) ((((24 : Int32) * x1) + x3) + x7_8).toNatClampNeg)) = 0 → k55 (0 : Int32)) ∧ ((lg_cmp (s0_50.toInt64) (J (rq Q h0 26) ((((24 : Int32) * x1) + x3) + x7_8).toNatClampNeg)) = 0 → k55 (2 : Int32)))) (fun s0_55 => wp_X11_could_L53 I J Q h0 x1 x3 (fun x5_31 x6_31 => ((fun (k33 : Int32 → Prop) => ((x6_31 = 0 → k33 (-2 : Int32)) ∧ (¬ x6_31 = 0 → k33 x5_31))) (fun s0_33 => post s0_33))) n53 (x5_8 &&& (s0_53 ||| s0_55)) s0_39 (x7_8 + (1 : Int32)))))))))) → WF Z N T Q → GG p l e ({ frames := 4, cells := 0, slots := 0, locals := 89 }) s m [.ref (ad h0), .int x1, .int x2, .int x3].toArray below meth c 12 A D D2 0 0 (MQ below (va_Qi (fun (r : Int32) (u : KS) => post r ∧ u.1 = I ∧ u.2.1 = J ∧ u.2.2 = Q ∧ WF Z N T u.2.2) (Bw D D2 ad N T) A) [.ref (ad h0), .int x1, .int x2, .int x3].toArray s 0 0 A) ad N T I J Q 141 [(0, .ref (ad h0)), (1, .int x1), (3, .int x3), (5, .int x5_8), (6, .int s0_39), (7, .int x7_8), (8, .long (J (rq Q h0 26) ((((24 : Int32) * x1) + x3) + x7_8).toNatClampNeg))] [.int s0_46] := by
                  intro s0_46 hw hWF
                  refine g_istore (lv' := [(10, .int s0_46), (0, .ref (ad h0)), (1, .int x1), (3, .int x3), (5, .int x5_8), (6, .int s0_39), (7, .int x7_8), (8, .long (J (rq Q h0 26) ((((24 : Int32) * x1) + x3) + x7_8).toNatClampNeg))]) C dX11_could_141 (by decide) rfl ?_
                  refine g_aload_n C dX11_could_143 rfl 1 rfl ?_
                  refine g_iload C dX11_could_144 6 rfl ?_
                  refine g_callVi (As := [.int x7_8]) C dX11_could_146 ft_387 z0 ft_413 ft_414 (met_X11_turnOf l hWF z0 hw) ⟨rfl, rfl, Nat.le_of_ble_eq_true rfl, Nat.le_of_ble_eq_true rfl⟩ ⟨Nat.zero_le _, Nat.zero_le _⟩ rfl rfl (Nat.le_of_ble_eq_true rfl) (fun r48 I48 J48 Q48 hp => ?_)
                  obtain ⟨hw, eI, eJ, eQ, hWF⟩ := hp
                  have eI : I = I48 := Eq.symm eI
                  subst eI
                  have eJ : J = J48 := Eq.symm eJ
                  subst eJ
                  have eQ : Q = Q48 := Eq.symm eQ
                  subst eQ
                  try dsimp only at hw hWF
                  refine g_bipush (v := (-4 : Int32)) C dX11_could_149 (by decide) ?_
                  have J50 : ∀ (s0_50 : Int32), (((fun (k53 : Int32 → Prop) => ((¬ (lg_cmp (s0_46.toInt64) (J (rq Q h0 26) ((((24 : Int32) * x1) + x3) + x7_8).toNatClampNeg)) = 0 → k53 (0 : Int32)) ∧ ((lg_cmp (s0_46.toInt64) (J (rq Q h0 26) ((((24 : Int32) * x1) + x3) + x7_8).toNatClampNeg)) = 0 → k53 (1 : Int32)))) (fun s0_53 => ((fun (k55 : Int32 → Prop) => ((¬ (lg_cmp (s0_50.toInt64) (J (rq Q h0 26) ((((24 : Int32) * x1) + x3) + x7_8).toNatClampNeg)) = 0 → k55 (0 : Int32)) ∧ ((lg_cmp (s0_50.toInt64) (J (rq Q h0 26) ((((24 : Int32) * x1) + x3) + x7_8).toNatClampNeg)) = 0 → k55 (2 : Int32)))) (fun s0_55 => wp_X11_could_L53 I J Q h0 x1 x3 (fun x5_31 x6_31 => ((fun (k33 : Int32 → Prop) => ((x6_31 = 0 → k33 (-2 : Int32)) ∧ (¬ x6_31 = 0 → k33 x5_31))) (fun s0_33 => post s0_33))) n53 (x5_8 &&& (s0_53 ||| s0_55)) s0_39 (x7_8 + (1 : Int32))))))) → WF Z N T Q → GG p l e ({ frames := 4, cells := 0, slots := 0, locals := 89 }) s m [.ref (ad h0), .int x1, .int x2, .int x3].toArray below meth c 12 A D D2 0 0 (MQ below (va_Qi (fun (r : Int32) (u : KS) => post r ∧ u.1 = I ∧ u.2.1 = J ∧ u.2.2 = Q ∧ WF Z N T u.2.2) (Bw D D2 ad N T) A) [.ref (ad h0), .int x1, .int x2, .int x3].toArray s 0 0 A) ad N T I J Q 165 [(0, .ref (ad h0)), (1, .int x1), (3, .int x3), (5, .int x5_8), (6, .int s0_39), (7, .int x7_8), (8, .long (J (rq Q h0 26) ((((24 : Int32) * x1) + x3) + x7_8).toNatClampNeg)), (10, .int s0_46)] [.int s0_50] := by
                    intro s0_50 hw hWF
                    refine g_istore (lv' := [(11, .int s0_50), (0, .ref (ad h0)), (1, .int x1), (3, .int x3), (5, .int x5_8), (6, .int s0_39), (7, .int x7_8), (8, .long (J (rq Q h0 26) ((((24 : Int32) * x1) + x3) + x7_8).toNatClampNeg)), (10, .int s0_46)]) C dX11_could_165 (by decide) rfl ?_
                    refine g_iload C dX11_could_167 4 rfl ?_
                    refine g_iload C dX11_could_169 8 rfl ?_
                    refine g_i2l C dX11_could_171 ?_
                    refine g_lload C dX11_could_172 7 rfl ?_
                    refine g_lcmp C dX11_could_174 ?_
                    have J53 : ∀ (s0_53 : Int32), (((fun (k55 : Int32 → Prop) => ((¬ (lg_cmp (s0_50.toInt64) (J (rq Q h0 26) ((((24 : Int32) * x1) + x3) + x7_8).toNatClampNeg)) = 0 → k55 (0 : Int32)) ∧ ((lg_cmp (s0_50.toInt64) (J (rq Q h0 26) ((((24 : Int32) * x1) + x3) + x7_8).toNatClampNeg)) = 0 → k55 (2 : Int32)))) (fun s0_55 => wp_X11_could_L53 I J Q h0 x1 x3 (fun x5_31 x6_31 => ((fun (k33 : Int32 → Prop) => ((x6_31 = 0 → k33 (-2 : Int32)) ∧ (¬ x6_31 = 0 → k33 x5_31))) (fun s0_33 => post s0_33))) n53 (x5_8 &&& (s0_53 ||| s0_55)) s0_39 (x7_8 + (1 : Int32))))) → WF Z N T Q → GG p l e ({ frames := 4, cells := 0, slots := 0, locals := 89 }) s m [.ref (ad h0), .int x1, .int x2, .int x3].toArray below meth c 12 A D D2 0 0 (MQ below (va_Qi (fun (r : Int32) (u : KS) => post r ∧ u.1 = I ∧ u.2.1 = J ∧ u.2.2 = Q ∧ WF Z N T u.2.2) (Bw D D2 ad N T) A) [.ref (ad h0), .int x1, .int x2, .int x3].toArray s 0 0 A) ad N T I J Q 183 [(0, .ref (ad h0)), (1, .int x1), (3, .int x3), (6, .int s0_39), (7, .int x7_8), (8, .long (J (rq Q h0 26) ((((24 : Int32) * x1) + x3) + x7_8).toNatClampNeg)), (11, .int s0_50)] [.int s0_53, .int x5_8] := by
                      intro s0_53 hw hWF
                      refine g_iload C dX11_could_183 6 rfl ?_
                      refine g_i2l C dX11_could_185 ?_
                      refine g_lload C dX11_could_186 5 rfl ?_
                      refine g_lcmp C dX11_could_188 ?_
                      have J55 : ∀ (s0_55 : Int32), (wp_X11_could_L53 I J Q h0 x1 x3 (fun x5_31 x6_31 => ((fun (k33 : Int32 → Prop) => ((x6_31 = 0 → k33 (-2 : Int32)) ∧ (¬ x6_31 = 0 → k33 x5_31))) (fun s0_33 => post s0_33))) n53 (x5_8 &&& (s0_53 ||| s0_55)) s0_39 (x7_8 + (1 : Int32))) → WF Z N T Q → GG p l e ({ frames := 4, cells := 0, slots := 0, locals := 89 }) s m [.ref (ad h0), .int x1, .int x2, .int x3].toArray below meth c 12 A D D2 0 0 (MQ below (va_Qi (fun (r : Int32) (u : KS) => post r ∧ u.1 = I ∧ u.2.1 = J ∧ u.2.2 = Q ∧ WF Z N T u.2.2) (Bw D D2 ad N T) A) [.ref (ad h0), .int x1, .int x2, .int x3].toArray s 0 0 A) ad N T I J Q 197 [(0, .ref (ad h0)), (1, .int x1), (3, .int x3), (6, .int s0_39), (7, .int x7_8)] [.int s0_55, .int s0_53, .int x5_8] := by
                        intro s0_55 hw hWF
                        refine g_ior C dX11_could_197 ?_
                        refine g_iand C dX11_could_198 ?_
                        refine g_istore (lv' := [(5, .int (x5_8 &&& (s0_53 ||| s0_55))), (0, .ref (ad h0)), (1, .int x1), (3, .int x3), (6, .int s0_39), (7, .int x7_8)]) C dX11_could_199 (by decide) rfl ?_
                        refine g_iinc (v := (x7_8 + (1 : Int32))) (lv' := [(7, .int (x7_8 + (1 : Int32))), (5, .int (x5_8 &&& (s0_53 ||| s0_55))), (0, .ref (ad h0)), (1, .int x1), (3, .int x3), (6, .int s0_39)]) C dX11_could_201 (q := 5) rfl rfl (by decide) rfl ?_
                        refine g_goto C dX11_could_204 (tgt := 53) (by decide) ?_
                        refine g_sub [2, 3, 4, 1, 5, 0] rfl ?_
                        exact ih_u30 (x5_8 &&& (s0_53 ||| s0_55)) s0_39 (x7_8 + (1 : Int32)) hw hWF
                      refine g_if_ne (tgt := 196) C dX11_could_189 (by decide) (fun c54 => ?_) (fun c54 => ?_)
                      · have hw := hw.1 c54
                        refine g_iconst (v := (0 : Int32)) C dX11_could_196 (by decide) ?_
                        refine g_sub [0, 1, 2, 3, 4] rfl ?_
                        exact J55 (0 : Int32) hw hWF
                      · have hw := hw.2 c54
                        refine g_iconst (v := (2 : Int32)) C dX11_could_192 (by decide) ?_
                        refine g_goto C dX11_could_193 (tgt := 197) (by decide) ?_
                        refine g_sub [0, 1, 2, 3, 4] rfl ?_
                        exact J55 (2 : Int32) hw hWF
                    refine g_if_ne (tgt := 182) C dX11_could_175 (by decide) (fun c52 => ?_) (fun c52 => ?_)
                    · have hw := hw.1 c52
                      refine g_iconst (v := (0 : Int32)) C dX11_could_182 (by decide) ?_
                      refine g_sub [1, 2, 3, 5, 6, 7, 0] rfl ?_
                      exact J53 (0 : Int32) hw hWF
                    · have hw := hw.2 c52
                      refine g_iconst (v := (1 : Int32)) C dX11_could_178 (by decide) ?_
                      refine g_goto C dX11_could_179 (tgt := 183) (by decide) ?_
                      refine g_sub [1, 2, 3, 5, 6, 7, 0] rfl ?_
                      exact J53 (1 : Int32) hw hWF
                  refine g_icmp_ne (tgt := 159) C dX11_could_151 (by decide) (fun c49 => ?_) (fun c49 => ?_)
                  · have hw := hw.1 c49
                    refine g_aload_n C dX11_could_159 rfl 1 rfl ?_
                    refine g_iload C dX11_could_160 6 rfl ?_
                    refine g_callVi (As := [.int x7_8]) C dX11_could_162 ft_387 z0 ft_413 ft_414 (met_X11_turnOf l hWF z0 hw) ⟨rfl, rfl, Nat.le_of_ble_eq_true rfl, Nat.le_of_ble_eq_true rfl⟩ ⟨Nat.zero_le _, Nat.zero_le _⟩ rfl rfl (Nat.le_of_ble_eq_true rfl) (fun r51 I51 J51 Q51 hp => ?_)
                    obtain ⟨hw, eI, eJ, eQ, hWF⟩ := hp
                    have eI : I = I51 := Eq.symm eI
                    subst eI
                    have eJ : J = J51 := Eq.symm eJ
                    subst eJ
                    have eQ : Q = Q51 := Eq.symm eQ
                    subst eQ
                    try dsimp only at hw hWF
                    refine g_sub [1, 2, 3, 4, 5, 6, 7, 0] rfl ?_
                    exact J50 r51 hw hWF
                  · have hw := hw.2 c49
                    refine g_bipush (v := (9 : Int32)) C dX11_could_154 (by decide) ?_
                    refine g_goto C dX11_could_156 (tgt := 165) (by decide) ?_
                    refine g_sub [1, 2, 3, 4, 5, 6, 7, 0] rfl ?_
                    exact J50 (9 : Int32) hw hWF
                refine g_icmp_ne (tgt := 135) C dX11_could_127 (by decide) (fun c45 => ?_) (fun c45 => ?_)
                · have hw := hw.1 c45
                  refine g_aload_n C dX11_could_135 rfl 1 rfl ?_
                  refine g_iload C dX11_could_136 5 rfl ?_
                  refine g_callVi (As := [.int x7_8]) C dX11_could_138 ft_387 z0 ft_415 ft_416 (met_X11_leastOf l hWF z0 hw) ⟨rfl, rfl, Nat.le_of_ble_eq_true rfl, Nat.le_of_ble_eq_true rfl⟩ ⟨Nat.zero_le _, Nat.zero_le _⟩ rfl rfl (Nat.le_of_ble_eq_true rfl) (fun r47 I47 J47 Q47 hp => ?_)
                  obtain ⟨hw, eI, eJ, eQ, hWF⟩ := hp
                  have eI : I = I47 := Eq.symm eI
                  subst eI
                  have eJ : J = J47 := Eq.symm eJ
                  subst eJ
                  have eQ : Q = Q47 := Eq.symm eQ
                  subst eQ
                  try dsimp only at hw hWF
                  refine g_sub [1, 2, 3, 4, 0, 5, 6] rfl ?_
                  exact J46 r47 hw hWF
                · have hw := hw.2 c45
                  refine g_bipush (v := (9 : Int32)) C dX11_could_130 (by decide) ?_
                  refine g_goto C dX11_could_132 (tgt := 141) (by decide) ?_
                  refine g_sub [1, 2, 3, 4, 0, 5, 6] rfl ?_
                  exact J46 (9 : Int32) hw hWF
              refine g_if_eq (tgt := 116) C dX11_could_82 (by decide) (fun c38 => ?_) (fun c38 => ?_)
              · have hw := hw.1 c38
                refine g_iconst (v := (0 : Int32)) C dX11_could_116 (by decide) ?_
                refine g_sub [1, 2, 3, 4, 6, 0] rfl ?_
                exact J39 (0 : Int32) hw hWF
              · have hw := hw.2 c38
                refine g_lload C dX11_could_85 0 rfl ?_
                refine g_ldc2 C dX11_could_87 ft_456 ?_
                refine g_lcmp C dX11_could_90 ?_
                refine g_if_eq (tgt := 112) C dX11_could_91 (by decide) (fun c40 => ?_) (fun c40 => ?_)
                · have hw := hw.1 c40
                  refine g_iconst (v := (1 : Int32)) C dX11_could_112 (by decide) ?_
                  refine g_goto C dX11_could_113 (tgt := 117) (by decide) ?_
                  refine g_sub [1, 2, 3, 4, 6, 0] rfl ?_
                  exact J39 (1 : Int32) hw hWF
                · have hw := hw.2 c40
                  refine g_lload C dX11_could_94 0 rfl ?_
                  refine g_lconst (v := (0 : Int64)) C dX11_could_96 (by decide) ?_
                  refine g_aload_n C dX11_could_97 rfl 1 rfl ?_
                  refine g_getQ C dX11_could_98 ft_363 z0 (hWF.q z0 0 rfl) ?_
                  have zz41 := hWF.r z0 0 rfl
                  refine g_iconst (v := (1 : Int32)) C dX11_could_101 (by decide) ?_
                  refine g_iald C dX11_could_102 zz41 (vp_lit (by decide +kernel)) ?_
                  refine g_iconst (v := (1 : Int32)) C dX11_could_103 (by decide) ?_
                  refine g_isub C dX11_could_104 ?_
                  refine g_i2l C dX11_could_105 ?_
                  refine g_callSi (As := [.long (J (rq Q h0 26) ((((24 : Int32) * x1) + x3) + x7_8).toNatClampNeg), .long (0 : Int64), .long (((I (rq Q h0 0) (1 : Int32).toNatClampNeg) - (1 : Int32)).toInt64)]) C dX11_could_106 ft_397 ft_398 (met_X11_in l hWF  hw) ⟨rfl, rfl, Nat.le_of_ble_eq_true rfl, Nat.le_of_ble_eq_true rfl⟩ ⟨Nat.zero_le _, Nat.zero_le _⟩ rfl rfl (Nat.le_of_ble_eq_true rfl) (fun r42 I42 J42 Q42 hp => ?_)
                  obtain ⟨hw, eI, eJ, eQ, hWF⟩ := hp
                  have eI : I = I42 := Eq.symm eI
                  subst eI
                  have eJ : J = J42 := Eq.symm eJ
                  subst eJ
                  have eQ : Q = Q42 := Eq.symm eQ
                  subst eQ
                  try dsimp only at hw hWF
                  refine g_if_eq (tgt := 116) C dX11_could_109 (by decide) (fun c43 => ?_) (fun c43 => ?_)
                  · have hw := hw.1 c43
                    refine g_iconst (v := (0 : Int32)) C dX11_could_116 (by decide) ?_
                    refine g_sub [1, 2, 3, 4, 6, 0] rfl ?_
                    exact J39 (0 : Int32) hw hWF
                  · have hw := hw.2 c43
                    refine g_iconst (v := (1 : Int32)) C dX11_could_112 (by decide) ?_
                    refine g_goto C dX11_could_113 (tgt := 117) (by decide) ?_
                    refine g_sub [1, 2, 3, 4, 6, 0] rfl ?_
                    exact J39 (1 : Int32) hw hWF
        obtain ⟨n_u30, hw⟩ := hw
        refine g_sub [4, 5, 7, 2, 1, 0] rfl ?_
        exact L53_u30 n_u30 (3 : Int32) (1 : Int32) (0 : Int32) hw hWF
      · have hw := hw.2 c7
        refine g_iload C dX11_could_41 0 rfl ?_
        exact g_iret C dX11_could_43 hr ⟨hw, rfl, rfl, rfl, hWF⟩
    · have hw := hw.2 c4
      refine g_iconst (v := (-1 : Int32)) C dX11_could_19 (by decide) ?_
      exact g_iret C dX11_could_20 hr ⟨hw, rfl, rfl, rfl, hWF⟩
def wp_X11_film_L59 (If_10 : KI) (Qf_10 : KQ) (f0_10 : Nat) (f1_10 : Int32) (f2_10 : Int32) (f3_10 : Int32) (f4_10 : Int32) (f5_10 : Int32) (post : Int32 → KJ → Prop) : Nat → KJ → Int32 → Prop
  | 0, _, _ => False
  | n59 + 1, J_10, x7_10 => ((f5_10 ≤ x7_10 → post f5_10 J_10) ∧ (¬ f5_10 ≤ x7_10 → wp_X11_sumOf If_10 Qf_10 f0_10 f1_10 x7_10 (fun r13 => wp_X11_cut f3_10 (r13.toInt64) (fun r14 => (vp_in ((((24 : Int32) * f2_10) + f4_10) + x7_10) 96 ∧ wp_X11_film_L59 If_10 Qf_10 f0_10 f1_10 f2_10 f3_10 f4_10 f5_10 post n59 (stj J_10 (rq Qf_10 f0_10 26) ((((24 : Int32) * f2_10) + f4_10) + x7_10).toNatClampNeg r14) (x7_10 + (1 : Int32)))))))
def wp_X11_film (I : KI) (J : KJ) (Q : KQ) (h0 : Nat) (x1 : Int32) (x2 : Int32) (x3 : Int32) (x4 : Int32) (post : Int32 → KJ → Prop) : Prop := wp_X11_isNode I Q h0 x1 (fun r1 => ((r1 = 0 → post (-1 : Int32) J) ∧ (¬ r1 = 0 → wp_X11_isSheet x2 (fun r3 => ((r3 = 0 → post (-1 : Int32) J) ∧ (¬ r3 = 0 → wp_X11_in (x3.toInt64) (0 : Int64) (3 : Int64) (fun r5 => ((¬ r5 = 0 → wp_X11_rank I Q h0 x1 (fun r7 => wp_X11_why I Q h0 x2 x3 x4 r7 (fun r8 => ((r8 = 0 → (∃ q59, wp_X11_film_L59 I Q h0 x1 x2 x3 x4 r7 post q59 J (0 : Int32))) ∧ (¬ r8 = 0 → post r8 J))))) ∧ (r5 = 0 → post (-1 : Int32) J)))))))))
set_option maxHeartbeats 4000000 in
set_option maxRecDepth 100000 in
theorem met_X11_film {Z : Nat → Prop} {A : Nat → Prop} {D : va_G} {D2 : Nat → ClassId} {ad : Nat → Nat} {N : Nat} {T : Nat → Nat × Nat} (l : Launch) {I : KI} {J : KJ} {Q : KQ} {h0 : Nat} {x1 : Int32} {x2 : Int32} {x3 : Int32} {x4 : Int32} {post : Int32 → KJ → Prop} (hWF : WF Z N T Q) (z0 : OKr Z N T h0 (11, 0)) (hw : wp_X11_film I J Q h0 x1 x2 x3 x4 post) : Met l yX11_film (.code yX11_film cX11_film 8 (some .int) :: BIG) ({ frames := 4, cells := 0, slots := 0, locals := 92 }) (Pr D D2 A ad N T I J Q [.ref (ad h0), .int x1, .int x2, .int x3, .int x4]) (va_Qi (fun (r : Int32) (u : KS) => post r u.2.1 ∧ u.1 = I ∧ u.2.2 = Q ∧ WF Z N T u.2.2) (Bw D D2 ad N T) A) 0 0 A := by
  refine Met_GG (lv0 := [(0, .ref (ad h0)), (1, .int x1), (2, .int x2), (3, .int x3), (4, .int x4)]) (by decide +kernel) [.ref (ad h0), .int x1, .int x2, .int x3, .int x4] (Nat.le_of_ble_eq_true rfl) rfl ?_
  intro p e s m below meth c C hr
  have C : CX p s m [.ref (ad h0), .int x1, .int x2, .int x3, .int x4].toArray meth c cX11_film 8 RX11 A D D2 := C
  unfold wp_X11_film at hw
  refine g_aload_n C dX11_film_0 rfl 0 rfl ?_
  refine g_iload_n C dX11_film_1 rfl 1 rfl ?_
  refine g_callVi (As := [.int x1]) C dX11_film_2 ft_387 z0 ft_434 ft_435 (met_X11_isNode l hWF z0 hw) ⟨rfl, rfl, Nat.le_of_ble_eq_true rfl, Nat.le_of_ble_eq_true rfl⟩ ⟨Nat.zero_le _, Nat.zero_le _⟩ rfl rfl (Nat.le_of_ble_eq_true rfl) (fun r1 I1 J1 Q1 hp => ?_)
  obtain ⟨hw, eI, eJ, eQ, hWF⟩ := hp
  have eI : I = I1 := Eq.symm eI
  subst eI
  have eJ : J = J1 := Eq.symm eJ
  subst eJ
  have eQ : Q = Q1 := Eq.symm eQ
  subst eQ
  try dsimp only at hw hWF
  refine g_if_eq (tgt := 27) C dX11_film_5 (by decide) (fun c2 => ?_) (fun c2 => ?_)
  · have hw := hw.1 c2
    refine g_iconst (v := (-1 : Int32)) C dX11_film_27 (by decide) ?_
    exact g_iret C dX11_film_28 hr ⟨hw, rfl, rfl, hWF⟩
  · have hw := hw.2 c2
    refine g_iload_n C dX11_film_8 rfl 2 rfl ?_
    refine g_callSi (As := [.int x2]) C dX11_film_9 ft_513 ft_514 (met_X11_isSheet l hWF  hw) ⟨rfl, rfl, Nat.le_of_ble_eq_true rfl, Nat.le_of_ble_eq_true rfl⟩ ⟨Nat.zero_le _, Nat.zero_le _⟩ rfl rfl (Nat.le_of_ble_eq_true rfl) (fun r3 I3 J3 Q3 hp => ?_)
    obtain ⟨hw, eI, eJ, eQ, hWF⟩ := hp
    have eI : I = I3 := Eq.symm eI
    subst eI
    have eJ : J = J3 := Eq.symm eJ
    subst eJ
    have eQ : Q = Q3 := Eq.symm eQ
    subst eQ
    try dsimp only at hw hWF
    refine g_if_eq (tgt := 27) C dX11_film_12 (by decide) (fun c4 => ?_) (fun c4 => ?_)
    · have hw := hw.1 c4
      refine g_iconst (v := (-1 : Int32)) C dX11_film_27 (by decide) ?_
      exact g_iret C dX11_film_28 hr ⟨hw, rfl, rfl, hWF⟩
    · have hw := hw.2 c4
      refine g_iload_n C dX11_film_15 rfl 3 rfl ?_
      refine g_i2l C dX11_film_16 ?_
      refine g_lconst (v := (0 : Int64)) C dX11_film_17 (by decide) ?_
      refine g_ldc2 C dX11_film_18 ft_471 ?_
      refine g_callSi (As := [.long (x3.toInt64), .long (0 : Int64), .long (3 : Int64)]) C dX11_film_21 ft_397 ft_398 (met_X11_in l hWF  hw) ⟨rfl, rfl, Nat.le_of_ble_eq_true rfl, Nat.le_of_ble_eq_true rfl⟩ ⟨Nat.zero_le _, Nat.zero_le _⟩ rfl rfl (Nat.le_of_ble_eq_true rfl) (fun r5 I5 J5 Q5 hp => ?_)
      obtain ⟨hw, eI, eJ, eQ, hWF⟩ := hp
      have eI : I = I5 := Eq.symm eI
      subst eI
      have eJ : J = J5 := Eq.symm eJ
      subst eJ
      have eQ : Q = Q5 := Eq.symm eQ
      subst eQ
      try dsimp only at hw hWF
      refine g_if_ne (tgt := 29) C dX11_film_24 (by decide) (fun c6 => ?_) (fun c6 => ?_)
      · have hw := hw.1 c6
        refine g_aload_n C dX11_film_29 rfl 0 rfl ?_
        refine g_iload_n C dX11_film_30 rfl 1 rfl ?_
        refine g_callVi (As := [.int x1]) C dX11_film_31 ft_387 z0 ft_399 ft_400 (met_X11_rank l hWF z0 hw) ⟨rfl, rfl, Nat.le_of_ble_eq_true rfl, Nat.le_of_ble_eq_true rfl⟩ ⟨Nat.zero_le _, Nat.zero_le _⟩ rfl rfl (Nat.le_of_ble_eq_true rfl) (fun r7 I7 J7 Q7 hp => ?_)
        obtain ⟨hw, eI, eJ, eQ, hWF⟩ := hp
        have eI : I = I7 := Eq.symm eI
        subst eI
        have eJ : J = J7 := Eq.symm eJ
        subst eJ
        have eQ : Q = Q7 := Eq.symm eQ
        subst eQ
        try dsimp only at hw hWF
        refine g_istore (lv' := [(5, .int r7), (0, .ref (ad h0)), (1, .int x1), (2, .int x2), (3, .int x3), (4, .int x4)]) C dX11_film_34 (by decide) rfl ?_
        refine g_aload_n C dX11_film_36 rfl 1 rfl ?_
        refine g_iload_n C dX11_film_37 rfl 3 rfl ?_
        refine g_iload_n C dX11_film_38 rfl 4 rfl ?_
        refine g_iload C dX11_film_39 5 rfl ?_
        refine g_iload C dX11_film_41 0 rfl ?_
        refine g_callVi (As := [.int x2, .int x3, .int x4, .int r7]) C dX11_film_43 ft_387 z0 ft_511 ft_512 (met_X11_why l hWF z0 hw) ⟨rfl, rfl, Nat.le_of_ble_eq_true rfl, Nat.le_of_ble_eq_true rfl⟩ ⟨Nat.zero_le _, Nat.zero_le _⟩ rfl rfl (Nat.le_of_ble_eq_true rfl) (fun r8 I8 J8 Q8 hp => ?_)
        obtain ⟨hw, eI, eJ, eQ, hWF⟩ := hp
        have eI : I = I8 := Eq.symm eI
        subst eI
        have eJ : J = J8 := Eq.symm eJ
        subst eJ
        have eQ : Q = Q8 := Eq.symm eQ
        subst eQ
        try dsimp only at hw hWF
        refine g_istore (lv' := [(6, .int r8), (5, .int r7), (0, .ref (ad h0)), (1, .int x1), (2, .int x2), (3, .int x3), (4, .int x4)]) C dX11_film_46 (by decide) rfl ?_
        refine g_iload C dX11_film_48 0 rfl ?_
        refine g_if_eq (tgt := 56) C dX11_film_50 (by decide) (fun c9 => ?_) (fun c9 => ?_)
        · have hw := hw.1 c9
          refine g_iconst (v := (0 : Int32)) C dX11_film_56 (by decide) ?_
          refine g_istore (lv' := [(7, .int (0 : Int32)), (6, .int r8), (5, .int r7), (0, .ref (ad h0)), (1, .int x1), (2, .int x2), (3, .int x3), (4, .int x4)]) C dX11_film_57 (by decide) rfl ?_
          have L59_u15 : ∀ (n59 : Nat) (J_10 : KJ) (x7_10 : Int32), wp_X11_film_L59 I Q h0 x1 x2 x3 x4 r7 post n59 J_10 x7_10 → WF Z N T Q → GG p l e ({ frames := 4, cells := 0, slots := 0, locals := 92 }) s m [.ref (ad h0), .int x1, .int x2, .int x3, .int x4].toArray below meth c 8 A D D2 0 0 (MQ below (va_Qi (fun (r : Int32) (u : KS) => post r u.2.1 ∧ u.1 = I ∧ u.2.2 = Q ∧ WF Z N T u.2.2) (Bw D D2 ad N T) A) [.ref (ad h0), .int x1, .int x2, .int x3, .int x4].toArray s 0 0 A) ad N T I J_10 Q 59 [(0, .ref (ad h0)), (1, .int x1), (2, .int x2), (3, .int x3), (4, .int x4), (5, .int r7), (7, .int x7_10)] [] := by
            intro n59
            induction n59 with
            | zero => intro J_10 x7_10 hw; exact hw.elim
            | succ n59 ih_u15 =>
              intro J_10 x7_10 hw hWF
              unfold wp_X11_film_L59 at hw
              refine g_iload C dX11_film_59 6 rfl ?_
              refine g_iload C dX11_film_61 5 rfl ?_
              refine g_icmp_ge (tgt := 99) C dX11_film_63 (by decide) (fun c17 => ?_) (fun c17 => ?_)
              · have hw := hw.1 c17
                refine g_iload C dX11_film_99 5 rfl ?_
                exact g_iret C dX11_film_101 hr ⟨hw, rfl, rfl, hWF⟩
              · have hw := hw.2 c17
                refine g_aload_n C dX11_film_66 rfl 0 rfl ?_
                refine g_getQ C dX11_film_67 ft_510 z0 (hWF.q z0 26 rfl) ?_
                have zz18 := hWF.r z0 26 rfl
                refine g_bipush (v := (24 : Int32)) C dX11_film_70 (by decide) ?_
                refine g_iload_n C dX11_film_72 rfl 2 rfl ?_
                refine g_imul C dX11_film_73 ?_
                refine g_iload C dX11_film_74 4 rfl ?_
                refine g_iadd C dX11_film_76 ?_
                refine g_iload C dX11_film_77 6 rfl ?_
                refine g_iadd C dX11_film_79 ?_
                refine g_iload_n C dX11_film_80 rfl 3 rfl ?_
                refine g_aload_n C dX11_film_81 rfl 0 rfl ?_
                refine g_iload_n C dX11_film_82 rfl 1 rfl ?_
                refine g_iload C dX11_film_83 6 rfl ?_
                refine g_callVi (As := [.int x1, .int x7_10]) C dX11_film_85 ft_387 z0 ft_409 ft_410 (met_X11_sumOf l hWF z0 hw) ⟨rfl, rfl, Nat.le_of_ble_eq_true rfl, Nat.le_of_ble_eq_true rfl⟩ ⟨Nat.zero_le _, Nat.zero_le _⟩ rfl rfl (Nat.le_of_ble_eq_true rfl) (fun r19 I19 J19 Q19 hp => ?_)
                obtain ⟨hw, eI, eJ, eQ, hWF⟩ := hp
                have eI : I = I19 := Eq.symm eI
                subst eI
                have eJ : J_10 = J19 := Eq.symm eJ
                subst eJ
                have eQ : Q = Q19 := Eq.symm eQ
                subst eQ
                try dsimp only at hw hWF
                refine g_i2l C dX11_film_88 ?_
                refine g_callSl (As := [.int x3, .long (r19.toInt64)]) C dX11_film_89 ft_515 ft_516 (met_X11_cut l hWF  hw) ⟨rfl, rfl, Nat.le_of_ble_eq_true rfl, Nat.le_of_ble_eq_true rfl⟩ ⟨Nat.zero_le _, Nat.zero_le _⟩ rfl rfl (Nat.le_of_ble_eq_true rfl) (fun r20 I20 J20 Q20 hp => ?_)
                obtain ⟨hw, eI, eJ, eQ, hWF⟩ := hp
                have eI : I = I20 := Eq.symm eI
                subst eI
                have eJ : J_10 = J20 := Eq.symm eJ
                subst eJ
                have eQ : Q = Q20 := Eq.symm eQ
                subst eQ
                try dsimp only at hw hWF
                refine g_last C dX11_film_92 zz18 hw.1 ?_
                have hw := hw.2
                refine g_iinc (v := (x7_10 + (1 : Int32))) (lv' := [(7, .int (x7_10 + (1 : Int32))), (0, .ref (ad h0)), (1, .int x1), (2, .int x2), (3, .int x3), (4, .int x4), (5, .int r7)]) C dX11_film_93 (q := 6) rfl rfl (by decide) rfl ?_
                refine g_goto C dX11_film_96 (tgt := 59) (by decide) ?_
                refine g_sub [1, 2, 3, 4, 5, 6, 0] rfl ?_
                exact ih_u15 (stj J_10 (rq Q h0 26) ((((24 : Int32) * x2) + x4) + x7_10).toNatClampNeg r20) (x7_10 + (1 : Int32)) hw hWF
          obtain ⟨n_u15, hw⟩ := hw
          refine g_sub [3, 4, 5, 6, 7, 2, 0] rfl ?_
          exact L59_u15 n_u15 J (0 : Int32) hw hWF
        · have hw := hw.2 c9
          refine g_iload C dX11_film_53 0 rfl ?_
          exact g_iret C dX11_film_55 hr ⟨hw, rfl, rfl, hWF⟩
      · have hw := hw.2 c6
        refine g_iconst (v := (-1 : Int32)) C dX11_film_27 (by decide) ?_
        exact g_iret C dX11_film_28 hr ⟨hw, rfl, rfl, hWF⟩
def wp_X11_sheet_L51 (If_9 : KI) (Qf_9 : KQ) (f0_9 : Nat) (f1_9 : Int32) (f3_9 : Int32) (post : Int32 → KI → KJ → Prop) : Nat → KJ → Int32 → Prop
  | 0, _, _ => False
  | n51 + 1, J_9, x4_9 => (((24 : Int32) ≤ x4_9 → post f3_9 If_9 J_9) ∧ (¬ (24 : Int32) ≤ x4_9 → (vp_in (((24 : Int32) * f1_9) + x4_9) 96 ∧ wp_X11_sheet_L51 If_9 Qf_9 f0_9 f1_9 f3_9 post n51 (stj J_9 (rq Qf_9 f0_9 26) (((24 : Int32) * f1_9) + x4_9).toNatClampNeg (0 : Int64)) (x4_9 + (1 : Int32)))))
def wp_X11_sheet (I : KI) (J : KJ) (Q : KQ) (h0 : Nat) (x1 : Int32) (x2 : Int32) (x3 : Int32) (post : Int32 → KI → KJ → Prop) : Prop := wp_X11_isSheet x1 (fun r1 => ((r1 = 0 → post (-1 : Int32) I J) ∧ (¬ r1 = 0 → wp_X11_in (x2.toInt64) (0 : Int64) (3 : Int64) (fun r3 => ((r3 = 0 → post (-1 : Int32) I J) ∧ (¬ r3 = 0 → ((x3 ≤ (24 : Int32) → ((0 ≤ x3 → (vp_in x1 4 ∧ (vp_in x1 4 ∧ (∃ q51, wp_X11_sheet_L51 (sti (sti I (rq Q h0 24) x1.toNatClampNeg x2) (rq Q h0 25) x1.toNatClampNeg x3) Q h0 x1 x3 post q51 J (0 : Int32))))) ∧ (¬ 0 ≤ x3 → post (-14 : Int32) I J))) ∧ (¬ x3 ≤ (24 : Int32) → post (-1 : Int32) I J))))))))
set_option maxHeartbeats 4000000 in
set_option maxRecDepth 100000 in
theorem met_X11_sheet {Z : Nat → Prop} {A : Nat → Prop} {D : va_G} {D2 : Nat → ClassId} {ad : Nat → Nat} {N : Nat} {T : Nat → Nat × Nat} (l : Launch) {I : KI} {J : KJ} {Q : KQ} {h0 : Nat} {x1 : Int32} {x2 : Int32} {x3 : Int32} {post : Int32 → KI → KJ → Prop} (hWF : WF Z N T Q) (z0 : OKr Z N T h0 (11, 0)) (hw : wp_X11_sheet I J Q h0 x1 x2 x3 post) : Met l yX11_sheet (.code yX11_sheet cX11_sheet 5 (some .int) :: BIG) ({ frames := 2, cells := 0, slots := 0, locals := 45 }) (Pr D D2 A ad N T I J Q [.ref (ad h0), .int x1, .int x2, .int x3]) (va_Qi (fun (r : Int32) (u : KS) => post r u.1 u.2.1 ∧ u.2.2 = Q ∧ WF Z N T u.2.2) (Bw D D2 ad N T) A) 0 0 A := by
  refine Met_GG (lv0 := [(0, .ref (ad h0)), (1, .int x1), (2, .int x2), (3, .int x3)]) (by decide +kernel) [.ref (ad h0), .int x1, .int x2, .int x3] (Nat.le_of_ble_eq_true rfl) rfl ?_
  intro p e s m below meth c C hr
  have C : CX p s m [.ref (ad h0), .int x1, .int x2, .int x3].toArray meth c cX11_sheet 5 RX11 A D D2 := C
  unfold wp_X11_sheet at hw
  refine g_iload_n C dX11_sheet_0 rfl 1 rfl ?_
  refine g_callSi (As := [.int x1]) C dX11_sheet_1 ft_513 ft_514 (met_X11_isSheet l hWF  hw) ⟨rfl, rfl, Nat.le_of_ble_eq_true rfl, Nat.le_of_ble_eq_true rfl⟩ ⟨Nat.zero_le _, Nat.zero_le _⟩ rfl rfl (Nat.le_of_ble_eq_true rfl) (fun r1 I1 J1 Q1 hp => ?_)
  obtain ⟨hw, eI, eJ, eQ, hWF⟩ := hp
  have eI : I = I1 := Eq.symm eI
  subst eI
  have eJ : J = J1 := Eq.symm eJ
  subst eJ
  have eQ : Q = Q1 := Eq.symm eQ
  subst eQ
  try dsimp only at hw hWF
  refine g_if_eq (tgt := 25) C dX11_sheet_4 (by decide) (fun c2 => ?_) (fun c2 => ?_)
  · have hw := hw.1 c2
    refine g_iconst (v := (-1 : Int32)) C dX11_sheet_25 (by decide) ?_
    exact g_iret C dX11_sheet_26 hr ⟨hw, rfl, hWF⟩
  · have hw := hw.2 c2
    refine g_iload_n C dX11_sheet_7 rfl 2 rfl ?_
    refine g_i2l C dX11_sheet_8 ?_
    refine g_lconst (v := (0 : Int64)) C dX11_sheet_9 (by decide) ?_
    refine g_ldc2 C dX11_sheet_10 ft_471 ?_
    refine g_callSi (As := [.long (x2.toInt64), .long (0 : Int64), .long (3 : Int64)]) C dX11_sheet_13 ft_397 ft_398 (met_X11_in l hWF  hw) ⟨rfl, rfl, Nat.le_of_ble_eq_true rfl, Nat.le_of_ble_eq_true rfl⟩ ⟨Nat.zero_le _, Nat.zero_le _⟩ rfl rfl (Nat.le_of_ble_eq_true rfl) (fun r3 I3 J3 Q3 hp => ?_)
    obtain ⟨hw, eI, eJ, eQ, hWF⟩ := hp
    have eI : I = I3 := Eq.symm eI
    subst eI
    have eJ : J = J3 := Eq.symm eJ
    subst eJ
    have eQ : Q = Q3 := Eq.symm eQ
    subst eQ
    try dsimp only at hw hWF
    refine g_if_eq (tgt := 25) C dX11_sheet_16 (by decide) (fun c4 => ?_) (fun c4 => ?_)
    · have hw := hw.1 c4
      refine g_iconst (v := (-1 : Int32)) C dX11_sheet_25 (by decide) ?_
      exact g_iret C dX11_sheet_26 hr ⟨hw, rfl, hWF⟩
    · have hw := hw.2 c4
      refine g_iload_n C dX11_sheet_19 rfl 3 rfl ?_
      refine g_bipush (v := (24 : Int32)) C dX11_sheet_20 (by decide) ?_
      refine g_icmp_le (tgt := 27) C dX11_sheet_22 (by decide) (fun c5 => ?_) (fun c5 => ?_)
      · have hw := hw.1 c5
        refine g_iload_n C dX11_sheet_27 rfl 3 rfl ?_
        refine g_if_ge (tgt := 34) C dX11_sheet_28 (by decide) (fun c6 => ?_) (fun c6 => ?_)
        · have hw := hw.1 c6
          refine g_aload_n C dX11_sheet_34 rfl 0 rfl ?_
          refine g_getQ C dX11_sheet_35 ft_509 z0 (hWF.q z0 24 rfl) ?_
          have zz7 := hWF.r z0 24 rfl
          refine g_iload_n C dX11_sheet_38 rfl 1 rfl ?_
          refine g_iload_n C dX11_sheet_39 rfl 2 rfl ?_
          refine g_iast C dX11_sheet_40 zz7 hw.1 ?_
          have hw := hw.2
          refine g_aload_n C dX11_sheet_41 rfl 0 rfl ?_
          refine g_getQ C dX11_sheet_42 ft_508 z0 (hWF.q z0 25 rfl) ?_
          have zz8 := hWF.r z0 25 rfl
          refine g_iload_n C dX11_sheet_45 rfl 1 rfl ?_
          refine g_iload_n C dX11_sheet_46 rfl 3 rfl ?_
          refine g_iast C dX11_sheet_47 zz8 hw.1 ?_
          have hw := hw.2
          refine g_iconst (v := (0 : Int32)) C dX11_sheet_48 (by decide) ?_
          refine g_istore (lv' := [(4, .int (0 : Int32)), (0, .ref (ad h0)), (1, .int x1), (2, .int x2), (3, .int x3)]) C dX11_sheet_49 (by decide) rfl ?_
          have L51_u12 : ∀ (n51 : Nat) (J_9 : KJ) (x4_9 : Int32), wp_X11_sheet_L51 (sti (sti I (rq Q h0 24) x1.toNatClampNeg x2) (rq Q h0 25) x1.toNatClampNeg x3) Q h0 x1 x3 post n51 J_9 x4_9 → WF Z N T Q → GG p l e ({ frames := 2, cells := 0, slots := 0, locals := 45 }) s m [.ref (ad h0), .int x1, .int x2, .int x3].toArray below meth c 5 A D D2 0 0 (MQ below (va_Qi (fun (r : Int32) (u : KS) => post r u.1 u.2.1 ∧ u.2.2 = Q ∧ WF Z N T u.2.2) (Bw D D2 ad N T) A) [.ref (ad h0), .int x1, .int x2, .int x3].toArray s 0 0 A) ad N T (sti (sti I (rq Q h0 24) x1.toNatClampNeg x2) (rq Q h0 25) x1.toNatClampNeg x3) J_9 Q 51 [(0, .ref (ad h0)), (1, .int x1), (3, .int x3), (4, .int x4_9)] [] := by
            intro n51
            induction n51 with
            | zero => intro J_9 x4_9 hw; exact hw.elim
            | succ n51 ih_u12 =>
              intro J_9 x4_9 hw hWF
              unfold wp_X11_sheet_L51 at hw
              refine g_iload C dX11_sheet_51 3 rfl ?_
              refine g_bipush (v := (24 : Int32)) C dX11_sheet_53 (by decide) ?_
              refine g_icmp_ge (tgt := 77) C dX11_sheet_55 (by decide) (fun c14 => ?_) (fun c14 => ?_)
              · have hw := hw.1 c14
                refine g_iload_n C dX11_sheet_77 rfl 2 rfl ?_
                exact g_iret C dX11_sheet_78 hr ⟨hw, rfl, hWF⟩
              · have hw := hw.2 c14
                refine g_aload_n C dX11_sheet_58 rfl 0 rfl ?_
                refine g_getQ C dX11_sheet_59 ft_510 z0 (hWF.q z0 26 rfl) ?_
                have zz15 := hWF.r z0 26 rfl
                refine g_bipush (v := (24 : Int32)) C dX11_sheet_62 (by decide) ?_
                refine g_iload_n C dX11_sheet_64 rfl 1 rfl ?_
                refine g_imul C dX11_sheet_65 ?_
                refine g_iload C dX11_sheet_66 3 rfl ?_
                refine g_iadd C dX11_sheet_68 ?_
                refine g_lconst (v := (0 : Int64)) C dX11_sheet_69 (by decide) ?_
                refine g_last C dX11_sheet_70 zz15 hw.1 ?_
                have hw := hw.2
                refine g_iinc (v := (x4_9 + (1 : Int32))) (lv' := [(4, .int (x4_9 + (1 : Int32))), (0, .ref (ad h0)), (1, .int x1), (3, .int x3)]) C dX11_sheet_71 (q := 3) rfl rfl (by decide) rfl ?_
                refine g_goto C dX11_sheet_74 (tgt := 51) (by decide) ?_
                refine g_sub [1, 2, 3, 0] rfl ?_
                exact ih_u12 (stj J_9 (rq Q h0 26) (((24 : Int32) * x1) + x4_9).toNatClampNeg (0 : Int64)) (x4_9 + (1 : Int32)) hw hWF
          obtain ⟨n_u12, hw⟩ := hw
          refine g_sub [1, 2, 4, 0] rfl ?_
          exact L51_u12 n_u12 J (0 : Int32) hw hWF
        · have hw := hw.2 c6
          refine g_bipush (v := (-14 : Int32)) C dX11_sheet_31 (by decide) ?_
          exact g_iret C dX11_sheet_33 hr ⟨hw, rfl, hWF⟩
      · have hw := hw.2 c5
        refine g_iconst (v := (-1 : Int32)) C dX11_sheet_25 (by decide) ?_
        exact g_iret C dX11_sheet_26 hr ⟨hw, rfl, hWF⟩
def wp_X11_drop (I : KI) (Q : KQ) (h0 : Nat) (x1 : Int32) (post : Int32 → KI → Prop) : Prop := wp_X11_isSheet x1 (fun r1 => ((¬ r1 = 0 → (vp_in x1 4 ∧ ((0 ≤ (I (rq Q h0 25) x1.toNatClampNeg) → (vp_in x1 4 ∧ post (I (rq Q h0 25) x1.toNatClampNeg) (sti I (rq Q h0 25) x1.toNatClampNeg (-1 : Int32)))) ∧ (¬ 0 ≤ (I (rq Q h0 25) x1.toNatClampNeg) → post (-11 : Int32) I)))) ∧ (r1 = 0 → post (-1 : Int32) I)))
set_option maxHeartbeats 4000000 in
set_option maxRecDepth 100000 in
theorem met_X11_drop {Z : Nat → Prop} {A : Nat → Prop} {D : va_G} {D2 : Nat → ClassId} {ad : Nat → Nat} {N : Nat} {T : Nat → Nat × Nat} (l : Launch) {I : KI} {J : KJ} {Q : KQ} {h0 : Nat} {x1 : Int32} {post : Int32 → KI → Prop} (hWF : WF Z N T Q) (z0 : OKr Z N T h0 (11, 0)) (hw : wp_X11_drop I Q h0 x1 post) : Met l yX11_drop (.code yX11_drop cX11_drop 3 (some .int) :: BIG) ({ frames := 2, cells := 0, slots := 0, locals := 45 }) (Pr D D2 A ad N T I J Q [.ref (ad h0), .int x1]) (va_Qi (fun (r : Int32) (u : KS) => post r u.1 ∧ u.2.1 = J ∧ u.2.2 = Q ∧ WF Z N T u.2.2) (Bw D D2 ad N T) A) 0 0 A := by
  refine Met_GG (lv0 := [(0, .ref (ad h0)), (1, .int x1)]) (by decide +kernel) [.ref (ad h0), .int x1] (Nat.le_of_ble_eq_true rfl) rfl ?_
  intro p e s m below meth c C hr
  have C : CX p s m [.ref (ad h0), .int x1].toArray meth c cX11_drop 3 RX11 A D D2 := C
  unfold wp_X11_drop at hw
  refine g_iload_n C dX11_drop_0 rfl 1 rfl ?_
  refine g_callSi (As := [.int x1]) C dX11_drop_1 ft_513 ft_514 (met_X11_isSheet l hWF  hw) ⟨rfl, rfl, Nat.le_of_ble_eq_true rfl, Nat.le_of_ble_eq_true rfl⟩ ⟨Nat.zero_le _, Nat.zero_le _⟩ rfl rfl (Nat.le_of_ble_eq_true rfl) (fun r1 I1 J1 Q1 hp => ?_)
  obtain ⟨hw, eI, eJ, eQ, hWF⟩ := hp
  have eI : I = I1 := Eq.symm eI
  subst eI
  have eJ : J = J1 := Eq.symm eJ
  subst eJ
  have eQ : Q = Q1 := Eq.symm eQ
  subst eQ
  try dsimp only at hw hWF
  refine g_if_ne (tgt := 9) C dX11_drop_4 (by decide) (fun c2 => ?_) (fun c2 => ?_)
  · have hw := hw.1 c2
    refine g_aload_n C dX11_drop_9 rfl 0 rfl ?_
    refine g_getQ C dX11_drop_10 ft_508 z0 (hWF.q z0 25 rfl) ?_
    have zz3 := hWF.r z0 25 rfl
    refine g_iload_n C dX11_drop_13 rfl 1 rfl ?_
    refine g_iald C dX11_drop_14 zz3 hw.1 ?_
    have hw := hw.2
    refine g_istore_n (lv' := [(2, .int (I (rq Q h0 25) x1.toNatClampNeg)), (0, .ref (ad h0)), (1, .int x1)]) C dX11_drop_15 rfl (by decide) rfl ?_
    refine g_iload_n C dX11_drop_16 rfl 0 rfl ?_
    refine g_if_ge (tgt := 23) C dX11_drop_17 (by decide) (fun c4 => ?_) (fun c4 => ?_)
    · have hw := hw.1 c4
      refine g_aload_n C dX11_drop_23 rfl 1 rfl ?_
      refine g_getQ C dX11_drop_24 ft_508 z0 (hWF.q z0 25 rfl) ?_
      have zz5 := hWF.r z0 25 rfl
      refine g_iload_n C dX11_drop_27 rfl 2 rfl ?_
      refine g_iconst (v := (-1 : Int32)) C dX11_drop_28 (by decide) ?_
      refine g_iast C dX11_drop_29 zz5 hw.1 ?_
      have hw := hw.2
      refine g_iload_n C dX11_drop_30 rfl 0 rfl ?_
      exact g_iret C dX11_drop_31 hr ⟨hw, rfl, rfl, hWF⟩
    · have hw := hw.2 c4
      refine g_bipush (v := (-11 : Int32)) C dX11_drop_20 (by decide) ?_
      exact g_iret C dX11_drop_22 hr ⟨hw, rfl, rfl, hWF⟩
  · have hw := hw.2 c2
    refine g_iconst (v := (-1 : Int32)) C dX11_drop_7 (by decide) ?_
    exact g_iret C dX11_drop_8 hr ⟨hw, rfl, rfl, hWF⟩
def wp_X11_item (I : KI) (J : KJ) (Q : KQ) (h0 : Nat) (x1 : Int32) (x2 : Int32) (x3 : Int32) (x4 : Int64) (post : Int32 → KJ → Prop) : Prop := wp_X11_isSheet x1 (fun r1 => ((r1 = 0 → post (-1 : Int32) J) ∧ (¬ r1 = 0 → wp_X11_in (x2.toInt64) (0 : Int64) (3 : Int64) (fun r3 => ((¬ r3 = 0 → wp_X11_why I Q h0 x1 x2 x3 (1 : Int32) (fun r5 => ((r5 = 0 → wp_X11_cut x2 x4 (fun r8 => (vp_in (((24 : Int32) * x1) + x3) 96 ∧ post (1 : Int32) (stj J (rq Q h0 26) (((24 : Int32) * x1) + x3).toNatClampNeg r8)))) ∧ (¬ r5 = 0 → post r5 J)))) ∧ (r3 = 0 → post (-1 : Int32) J))))))
set_option maxHeartbeats 4000000 in
set_option maxRecDepth 100000 in
theorem met_X11_item {Z : Nat → Prop} {A : Nat → Prop} {D : va_G} {D2 : Nat → ClassId} {ad : Nat → Nat} {N : Nat} {T : Nat → Nat × Nat} (l : Launch) {I : KI} {J : KJ} {Q : KQ} {h0 : Nat} {x1 : Int32} {x2 : Int32} {x3 : Int32} {x4 : Int64} {post : Int32 → KJ → Prop} (hWF : WF Z N T Q) (z0 : OKr Z N T h0 (11, 0)) (hw : wp_X11_item I J Q h0 x1 x2 x3 x4 post) : Met l yX11_item (.code yX11_item cX11_item 7 (some .int) :: BIG) ({ frames := 2, cells := 0, slots := 0, locals := 45 }) (Pr D D2 A ad N T I J Q [.ref (ad h0), .int x1, .int x2, .int x3, .long x4]) (va_Qi (fun (r : Int32) (u : KS) => post r u.2.1 ∧ u.1 = I ∧ u.2.2 = Q ∧ WF Z N T u.2.2) (Bw D D2 ad N T) A) 0 0 A := by
  refine Met_GG (lv0 := [(0, .ref (ad h0)), (1, .int x1), (2, .int x2), (3, .int x3), (4, .long x4)]) (by decide +kernel) [.ref (ad h0), .int x1, .int x2, .int x3, .long x4] (Nat.le_of_ble_eq_true rfl) rfl ?_
  intro p e s m below meth c C hr
  have C : CX p s m [.ref (ad h0), .int x1, .int x2, .int x3, .long x4].toArray meth c cX11_item 7 RX11 A D D2 := C
  unfold wp_X11_item at hw
  refine g_iload_n C dX11_item_0 rfl 1 rfl ?_
  refine g_callSi (As := [.int x1]) C dX11_item_1 ft_513 ft_514 (met_X11_isSheet l hWF  hw) ⟨rfl, rfl, Nat.le_of_ble_eq_true rfl, Nat.le_of_ble_eq_true rfl⟩ ⟨Nat.zero_le _, Nat.zero_le _⟩ rfl rfl (Nat.le_of_ble_eq_true rfl) (fun r1 I1 J1 Q1 hp => ?_)
  obtain ⟨hw, eI, eJ, eQ, hWF⟩ := hp
  have eI : I = I1 := Eq.symm eI
  subst eI
  have eJ : J = J1 := Eq.symm eJ
  subst eJ
  have eQ : Q = Q1 := Eq.symm eQ
  subst eQ
  try dsimp only at hw hWF
  refine g_if_eq (tgt := 19) C dX11_item_4 (by decide) (fun c2 => ?_) (fun c2 => ?_)
  · have hw := hw.1 c2
    refine g_iconst (v := (-1 : Int32)) C dX11_item_19 (by decide) ?_
    exact g_iret C dX11_item_20 hr ⟨hw, rfl, rfl, hWF⟩
  · have hw := hw.2 c2
    refine g_iload_n C dX11_item_7 rfl 2 rfl ?_
    refine g_i2l C dX11_item_8 ?_
    refine g_lconst (v := (0 : Int64)) C dX11_item_9 (by decide) ?_
    refine g_ldc2 C dX11_item_10 ft_471 ?_
    refine g_callSi (As := [.long (x2.toInt64), .long (0 : Int64), .long (3 : Int64)]) C dX11_item_13 ft_397 ft_398 (met_X11_in l hWF  hw) ⟨rfl, rfl, Nat.le_of_ble_eq_true rfl, Nat.le_of_ble_eq_true rfl⟩ ⟨Nat.zero_le _, Nat.zero_le _⟩ rfl rfl (Nat.le_of_ble_eq_true rfl) (fun r3 I3 J3 Q3 hp => ?_)
    obtain ⟨hw, eI, eJ, eQ, hWF⟩ := hp
    have eI : I = I3 := Eq.symm eI
    subst eI
    have eJ : J = J3 := Eq.symm eJ
    subst eJ
    have eQ : Q = Q3 := Eq.symm eQ
    subst eQ
    try dsimp only at hw hWF
    refine g_if_ne (tgt := 21) C dX11_item_16 (by decide) (fun c4 => ?_) (fun c4 => ?_)
    · have hw := hw.1 c4
      refine g_aload_n C dX11_item_21 rfl 0 rfl ?_
      refine g_iload_n C dX11_item_22 rfl 1 rfl ?_
      refine g_iload_n C dX11_item_23 rfl 2 rfl ?_
      refine g_iload_n C dX11_item_24 rfl 3 rfl ?_
      refine g_iconst (v := (1 : Int32)) C dX11_item_25 (by decide) ?_
      refine g_callVi (As := [.int x1, .int x2, .int x3, .int (1 : Int32)]) C dX11_item_26 ft_387 z0 ft_511 ft_512 (met_X11_why l hWF z0 hw) ⟨rfl, rfl, Nat.le_of_ble_eq_true rfl, Nat.le_of_ble_eq_true rfl⟩ ⟨Nat.zero_le _, Nat.zero_le _⟩ rfl rfl (Nat.le_of_ble_eq_true rfl) (fun r5 I5 J5 Q5 hp => ?_)
      obtain ⟨hw, eI, eJ, eQ, hWF⟩ := hp
      have eI : I = I5 := Eq.symm eI
      subst eI
      have eJ : J = J5 := Eq.symm eJ
      subst eJ
      have eQ : Q = Q5 := Eq.symm eQ
      subst eQ
      try dsimp only at hw hWF
      refine g_istore (lv' := [(6, .int r5), (0, .ref (ad h0)), (1, .int x1), (2, .int x2), (3, .int x3), (4, .long x4)]) C dX11_item_29 (by decide) rfl ?_
      refine g_iload C dX11_item_31 0 rfl ?_
      refine g_if_eq (tgt := 39) C dX11_item_33 (by decide) (fun c6 => ?_) (fun c6 => ?_)
      · have hw := hw.1 c6
        refine g_aload_n C dX11_item_39 rfl 1 rfl ?_
        refine g_getQ C dX11_item_40 ft_510 z0 (hWF.q z0 26 rfl) ?_
        have zz7 := hWF.r z0 26 rfl
        refine g_bipush (v := (24 : Int32)) C dX11_item_43 (by decide) ?_
        refine g_iload_n C dX11_item_45 rfl 2 rfl ?_
        refine g_imul C dX11_item_46 ?_
        refine g_iload_n C dX11_item_47 rfl 4 rfl ?_
        refine g_iadd C dX11_item_48 ?_
        refine g_iload_n C dX11_item_49 rfl 3 rfl ?_
        refine g_lload C dX11_item_50 5 rfl ?_
        refine g_callSl (As := [.int x2, .long x4]) C dX11_item_52 ft_515 ft_516 (met_X11_cut l hWF  hw) ⟨rfl, rfl, Nat.le_of_ble_eq_true rfl, Nat.le_of_ble_eq_true rfl⟩ ⟨Nat.zero_le _, Nat.zero_le _⟩ rfl rfl (Nat.le_of_ble_eq_true rfl) (fun r8 I8 J8 Q8 hp => ?_)
        obtain ⟨hw, eI, eJ, eQ, hWF⟩ := hp
        have eI : I = I8 := Eq.symm eI
        subst eI
        have eJ : J = J8 := Eq.symm eJ
        subst eJ
        have eQ : Q = Q8 := Eq.symm eQ
        subst eQ
        try dsimp only at hw hWF
        refine g_last C dX11_item_55 zz7 hw.1 ?_
        have hw := hw.2
        refine g_iconst (v := (1 : Int32)) C dX11_item_56 (by decide) ?_
        exact g_iret C dX11_item_57 hr ⟨hw, rfl, rfl, hWF⟩
      · have hw := hw.2 c6
        refine g_iload C dX11_item_36 0 rfl ?_
        exact g_iret C dX11_item_38 hr ⟨hw, rfl, rfl, hWF⟩
    · have hw := hw.2 c4
      refine g_iconst (v := (-1 : Int32)) C dX11_item_19 (by decide) ?_
      exact g_iret C dX11_item_20 hr ⟨hw, rfl, rfl, hWF⟩
def wp_X11_copy_L101 (Qf_19 : KQ) (f0_19 : Nat) (f1_19 : Int32) (f2_19 : Int32) (f3_19 : Int32) (f4_19 : Int32) (f5_19 : Int32) (post : Int32 → KJ → Prop) : Nat → KJ → Int32 → Prop
  | 0, _, _ => False
  | n101 + 1, J_19, x6_19 => ((f5_19 ≤ x6_19 → post f5_19 J_19) ∧ (¬ f5_19 ≤ x6_19 → ((f4_19 ≤ f2_19 → (vp_in ((((24 : Int32) * f1_19) + f2_19) + x6_19) 96 ∧ (vp_in ((((24 : Int32) * f3_19) + f4_19) + x6_19) 96 ∧ wp_X11_copy_L101 Qf_19 f0_19 f1_19 f2_19 f3_19 f4_19 f5_19 post n101 (stj J_19 (rq Qf_19 f0_19 26) ((((24 : Int32) * f3_19) + f4_19) + x6_19).toNatClampNeg (J_19 (rq Qf_19 f0_19 26) ((((24 : Int32) * f1_19) + f2_19) + x6_19).toNatClampNeg)) (x6_19 + (1 : Int32))))) ∧ (¬ f4_19 ≤ f2_19 → (vp_in ((((24 : Int32) * f1_19) + f2_19) + ((f5_19 - (1 : Int32)) - x6_19)) 96 ∧ (vp_in ((((24 : Int32) * f3_19) + f4_19) + ((f5_19 - (1 : Int32)) - x6_19)) 96 ∧ wp_X11_copy_L101 Qf_19 f0_19 f1_19 f2_19 f3_19 f4_19 f5_19 post n101 (stj J_19 (rq Qf_19 f0_19 26) ((((24 : Int32) * f3_19) + f4_19) + ((f5_19 - (1 : Int32)) - x6_19)).toNatClampNeg (J_19 (rq Qf_19 f0_19 26) ((((24 : Int32) * f1_19) + f2_19) + ((f5_19 - (1 : Int32)) - x6_19)).toNatClampNeg)) (x6_19 + (1 : Int32))))))))
def wp_X11_copy (I : KI) (J : KJ) (Q : KQ) (h0 : Nat) (x1 : Int32) (x2 : Int32) (x3 : Int32) (x4 : Int32) (x5 : Int32) (post : Int32 → KJ → Prop) : Prop := wp_X11_isSheet x1 (fun r1 => ((r1 = 0 → post (-1 : Int32) J) ∧ (¬ r1 = 0 → wp_X11_isSheet x3 (fun r3 => ((¬ r3 = 0 → (vp_in x1 4 ∧ (((I (rq Q h0 25) x1.toNatClampNeg) < 0 → post (-11 : Int32) J) ∧ (¬ (I (rq Q h0 25) x1.toNatClampNeg) < 0 → (vp_in x3 4 ∧ ((0 ≤ (I (rq Q h0 25) x3.toNatClampNeg) → (vp_in x1 4 ∧ (vp_in x3 4 ∧ (((I (rq Q h0 24) x1.toNatClampNeg) = (I (rq Q h0 24) x3.toNatClampNeg) → ((x5 < 0 → post (-13 : Int32) J) ∧ (¬ x5 < 0 → (vp_in x1 4 ∧ wp_X11_why I Q h0 x1 (I (rq Q h0 24) x1.toNatClampNeg) x2 x5 (fun r14 => ((¬ r14 = 0 → post (-13 : Int32) J) ∧ (r14 = 0 → (vp_in x3 4 ∧ wp_X11_why I Q h0 x3 (I (rq Q h0 24) x3.toNatClampNeg) x4 x5 (fun r17 => ((r17 = 0 → (∃ q101, wp_X11_copy_L101 Q h0 x1 x2 x3 x4 x5 post q101 J (0 : Int32))) ∧ (¬ r17 = 0 → post (-13 : Int32) J))))))))))) ∧ (¬ (I (rq Q h0 24) x1.toNatClampNeg) = (I (rq Q h0 24) x3.toNatClampNeg) → post (-12 : Int32) J))))) ∧ (¬ 0 ≤ (I (rq Q h0 25) x3.toNatClampNeg) → post (-11 : Int32) J))))))) ∧ (r3 = 0 → post (-1 : Int32) J))))))
set_option maxHeartbeats 4000000 in
set_option maxRecDepth 100000 in
theorem met_X11_copy {Z : Nat → Prop} {A : Nat → Prop} {D : va_G} {D2 : Nat → ClassId} {ad : Nat → Nat} {N : Nat} {T : Nat → Nat × Nat} (l : Launch) {I : KI} {J : KJ} {Q : KQ} {h0 : Nat} {x1 : Int32} {x2 : Int32} {x3 : Int32} {x4 : Int32} {x5 : Int32} {post : Int32 → KJ → Prop} (hWF : WF Z N T Q) (z0 : OKr Z N T h0 (11, 0)) (hw : wp_X11_copy I J Q h0 x1 x2 x3 x4 x5 post) : Met l yX11_copy (.code yX11_copy cX11_copy 8 (some .int) :: BIG) ({ frames := 2, cells := 0, slots := 0, locals := 45 }) (Pr D D2 A ad N T I J Q [.ref (ad h0), .int x1, .int x2, .int x3, .int x4, .int x5]) (va_Qi (fun (r : Int32) (u : KS) => post r u.2.1 ∧ u.1 = I ∧ u.2.2 = Q ∧ WF Z N T u.2.2) (Bw D D2 ad N T) A) 0 0 A := by
  refine Met_GG (lv0 := [(0, .ref (ad h0)), (1, .int x1), (2, .int x2), (3, .int x3), (4, .int x4), (5, .int x5)]) (by decide +kernel) [.ref (ad h0), .int x1, .int x2, .int x3, .int x4, .int x5] (Nat.le_of_ble_eq_true rfl) rfl ?_
  intro p e s m below meth c C hr
  have C : CX p s m [.ref (ad h0), .int x1, .int x2, .int x3, .int x4, .int x5].toArray meth c cX11_copy 8 RX11 A D D2 := C
  unfold wp_X11_copy at hw
  refine g_iload_n C dX11_copy_0 rfl 1 rfl ?_
  refine g_callSi (As := [.int x1]) C dX11_copy_1 ft_513 ft_514 (met_X11_isSheet l hWF  hw) ⟨rfl, rfl, Nat.le_of_ble_eq_true rfl, Nat.le_of_ble_eq_true rfl⟩ ⟨Nat.zero_le _, Nat.zero_le _⟩ rfl rfl (Nat.le_of_ble_eq_true rfl) (fun r1 I1 J1 Q1 hp => ?_)
  obtain ⟨hw, eI, eJ, eQ, hWF⟩ := hp
  have eI : I = I1 := Eq.symm eI
  subst eI
  have eJ : J = J1 := Eq.symm eJ
  subst eJ
  have eQ : Q = Q1 := Eq.symm eQ
  subst eQ
  try dsimp only at hw hWF
  refine g_if_eq (tgt := 14) C dX11_copy_4 (by decide) (fun c2 => ?_) (fun c2 => ?_)
  · have hw := hw.1 c2
    refine g_iconst (v := (-1 : Int32)) C dX11_copy_14 (by decide) ?_
    exact g_iret C dX11_copy_15 hr ⟨hw, rfl, rfl, hWF⟩
  · have hw := hw.2 c2
    refine g_iload_n C dX11_copy_7 rfl 3 rfl ?_
    refine g_callSi (As := [.int x3]) C dX11_copy_8 ft_513 ft_514 (met_X11_isSheet l hWF  hw) ⟨rfl, rfl, Nat.le_of_ble_eq_true rfl, Nat.le_of_ble_eq_true rfl⟩ ⟨Nat.zero_le _, Nat.zero_le _⟩ rfl rfl (Nat.le_of_ble_eq_true rfl) (fun r3 I3 J3 Q3 hp => ?_)
    obtain ⟨hw, eI, eJ, eQ, hWF⟩ := hp
    have eI : I = I3 := Eq.symm eI
    subst eI
    have eJ : J = J3 := Eq.symm eJ
    subst eJ
    have eQ : Q = Q3 := Eq.symm eQ
    subst eQ
    try dsimp only at hw hWF
    refine g_if_ne (tgt := 16) C dX11_copy_11 (by decide) (fun c4 => ?_) (fun c4 => ?_)
    · have hw := hw.1 c4
      refine g_aload_n C dX11_copy_16 rfl 0 rfl ?_
      refine g_getQ C dX11_copy_17 ft_508 z0 (hWF.q z0 25 rfl) ?_
      have zz5 := hWF.r z0 25 rfl
      refine g_iload_n C dX11_copy_20 rfl 1 rfl ?_
      refine g_iald C dX11_copy_21 zz5 hw.1 ?_
      have hw := hw.2
      refine g_if_lt (tgt := 34) C dX11_copy_22 (by decide) (fun c6 => ?_) (fun c6 => ?_)
      · have hw := hw.1 c6
        refine g_bipush (v := (-11 : Int32)) C dX11_copy_34 (by decide) ?_
        exact g_iret C dX11_copy_36 hr ⟨hw, rfl, rfl, hWF⟩
      · have hw := hw.2 c6
        refine g_aload_n C dX11_copy_25 rfl 0 rfl ?_
        refine g_getQ C dX11_copy_26 ft_508 z0 (hWF.q z0 25 rfl) ?_
        have zz7 := hWF.r z0 25 rfl
        refine g_iload_n C dX11_copy_29 rfl 3 rfl ?_
        refine g_iald C dX11_copy_30 zz7 hw.1 ?_
        have hw := hw.2
        refine g_if_ge (tgt := 37) C dX11_copy_31 (by decide) (fun c8 => ?_) (fun c8 => ?_)
        · have hw := hw.1 c8
          refine g_aload_n C dX11_copy_37 rfl 0 rfl ?_
          refine g_getQ C dX11_copy_38 ft_509 z0 (hWF.q z0 24 rfl) ?_
          have zz9 := hWF.r z0 24 rfl
          refine g_iload_n C dX11_copy_41 rfl 1 rfl ?_
          refine g_iald C dX11_copy_42 zz9 hw.1 ?_
          have hw := hw.2
          refine g_aload_n C dX11_copy_43 rfl 0 rfl ?_
          refine g_getQ C dX11_copy_44 ft_509 z0 (hWF.q z0 24 rfl) ?_
          have zz10 := hWF.r z0 24 rfl
          refine g_iload_n C dX11_copy_47 rfl 3 rfl ?_
          refine g_iald C dX11_copy_48 zz10 hw.1 ?_
          have hw := hw.2
          refine g_icmp_eq (tgt := 55) C dX11_copy_49 (by decide) (fun c11 => ?_) (fun c11 => ?_)
          · have hw := hw.1 c11
            refine g_iload C dX11_copy_55 5 rfl ?_
            refine g_if_lt (tgt := 95) C dX11_copy_57 (by decide) (fun c12 => ?_) (fun c12 => ?_)
            · have hw := hw.1 c12
              refine g_bipush (v := (-13 : Int32)) C dX11_copy_95 (by decide) ?_
              exact g_iret C dX11_copy_97 hr ⟨hw, rfl, rfl, hWF⟩
            · have hw := hw.2 c12
              refine g_aload_n C dX11_copy_60 rfl 0 rfl ?_
              refine g_iload_n C dX11_copy_61 rfl 1 rfl ?_
              refine g_aload_n C dX11_copy_62 rfl 0 rfl ?_
              refine g_getQ C dX11_copy_63 ft_509 z0 (hWF.q z0 24 rfl) ?_
              have zz13 := hWF.r z0 24 rfl
              refine g_iload_n C dX11_copy_66 rfl 1 rfl ?_
              refine g_iald C dX11_copy_67 zz13 hw.1 ?_
              have hw := hw.2
              refine g_iload_n C dX11_copy_68 rfl 2 rfl ?_
              refine g_iload C dX11_copy_69 5 rfl ?_
              refine g_callVi (As := [.int x1, .int (I (rq Q h0 24) x1.toNatClampNeg), .int x2, .int x5]) C dX11_copy_71 ft_387 z0 ft_511 ft_512 (met_X11_why l hWF z0 hw) ⟨rfl, rfl, Nat.le_of_ble_eq_true rfl, Nat.le_of_ble_eq_true rfl⟩ ⟨Nat.zero_le _, Nat.zero_le _⟩ rfl rfl (Nat.le_of_ble_eq_true rfl) (fun r14 I14 J14 Q14 hp => ?_)
              obtain ⟨hw, eI, eJ, eQ, hWF⟩ := hp
              have eI : I = I14 := Eq.symm eI
              subst eI
              have eJ : J = J14 := Eq.symm eJ
              subst eJ
              have eQ : Q = Q14 := Eq.symm eQ
              subst eQ
              try dsimp only at hw hWF
              refine g_if_ne (tgt := 95) C dX11_copy_74 (by decide) (fun c15 => ?_) (fun c15 => ?_)
              · have hw := hw.1 c15
                refine g_bipush (v := (-13 : Int32)) C dX11_copy_95 (by decide) ?_
                exact g_iret C dX11_copy_97 hr ⟨hw, rfl, rfl, hWF⟩
              · have hw := hw.2 c15
                refine g_aload_n C dX11_copy_77 rfl 0 rfl ?_
                refine g_iload_n C dX11_copy_78 rfl 3 rfl ?_
                refine g_aload_n C dX11_copy_79 rfl 0 rfl ?_
                refine g_getQ C dX11_copy_80 ft_509 z0 (hWF.q z0 24 rfl) ?_
                have zz16 := hWF.r z0 24 rfl
                refine g_iload_n C dX11_copy_83 rfl 3 rfl ?_
                refine g_iald C dX11_copy_84 zz16 hw.1 ?_
                have hw := hw.2
                refine g_iload C dX11_copy_85 4 rfl ?_
                refine g_iload C dX11_copy_87 5 rfl ?_
                refine g_callVi (As := [.int x3, .int (I (rq Q h0 24) x3.toNatClampNeg), .int x4, .int x5]) C dX11_copy_89 ft_387 z0 ft_511 ft_512 (met_X11_why l hWF z0 hw) ⟨rfl, rfl, Nat.le_of_ble_eq_true rfl, Nat.le_of_ble_eq_true rfl⟩ ⟨Nat.zero_le _, Nat.zero_le _⟩ rfl rfl (Nat.le_of_ble_eq_true rfl) (fun r17 I17 J17 Q17 hp => ?_)
                obtain ⟨hw, eI, eJ, eQ, hWF⟩ := hp
                have eI : I = I17 := Eq.symm eI
                subst eI
                have eJ : J = J17 := Eq.symm eJ
                subst eJ
                have eQ : Q = Q17 := Eq.symm eQ
                subst eQ
                try dsimp only at hw hWF
                refine g_if_eq (tgt := 98) C dX11_copy_92 (by decide) (fun c18 => ?_) (fun c18 => ?_)
                · have hw := hw.1 c18
                  refine g_iconst (v := (0 : Int32)) C dX11_copy_98 (by decide) ?_
                  refine g_istore (lv' := [(6, .int (0 : Int32)), (0, .ref (ad h0)), (1, .int x1), (2, .int x2), (3, .int x3), (4, .int x4), (5, .int x5)]) C dX11_copy_99 (by decide) rfl ?_
                  have L101_u26 : ∀ (n101 : Nat) (J_19 : KJ) (x6_19 : Int32), wp_X11_copy_L101 Q h0 x1 x2 x3 x4 x5 post n101 J_19 x6_19 → WF Z N T Q → GG p l e ({ frames := 2, cells := 0, slots := 0, locals := 45 }) s m [.ref (ad h0), .int x1, .int x2, .int x3, .int x4, .int x5].toArray below meth c 8 A D D2 0 0 (MQ below (va_Qi (fun (r : Int32) (u : KS) => post r u.2.1 ∧ u.1 = I ∧ u.2.2 = Q ∧ WF Z N T u.2.2) (Bw D D2 ad N T) A) [.ref (ad h0), .int x1, .int x2, .int x3, .int x4, .int x5].toArray s 0 0 A) ad N T I J_19 Q 101 [(0, .ref (ad h0)), (1, .int x1), (2, .int x2), (3, .int x3), (4, .int x4), (5, .int x5), (6, .int x6_19)] [] := by
                    intro n101
                    induction n101 with
                    | zero => intro J_19 x6_19 hw; exact hw.elim
                    | succ n101 ih_u26 =>
                      intro J_19 x6_19 hw hWF
                      unfold wp_X11_copy_L101 at hw
                      refine g_iload C dX11_copy_101 6 rfl ?_
                      refine g_iload C dX11_copy_103 5 rfl ?_
                      refine g_icmp_ge (tgt := 163) C dX11_copy_105 (by decide) (fun c28 => ?_) (fun c28 => ?_)
                      · have hw := hw.1 c28
                        refine g_iload C dX11_copy_163 5 rfl ?_
                        exact g_iret C dX11_copy_165 hr ⟨hw, rfl, rfl, hWF⟩
                      · have hw := hw.2 c28
                        refine g_iload_n C dX11_copy_108 rfl 2 rfl ?_
                        refine g_iload C dX11_copy_109 4 rfl ?_
                        refine g_icmp_ge (tgt := 124) C dX11_copy_111 (by decide) (fun c29 => ?_) (fun c29 => ?_)
                        · have hw := hw.1 c29
                          refine g_iload C dX11_copy_124 6 rfl ?_
                          refine g_istore (lv' := [(7, .int x6_19), (0, .ref (ad h0)), (1, .int x1), (2, .int x2), (3, .int x3), (4, .int x4), (5, .int x5), (6, .int x6_19)]) C dX11_copy_126 (by decide) rfl ?_
                          refine g_aload_n C dX11_copy_128 rfl 1 rfl ?_
                          refine g_getQ C dX11_copy_129 ft_510 z0 (hWF.q z0 26 rfl) ?_
                          have zz30 := hWF.r z0 26 rfl
                          refine g_bipush (v := (24 : Int32)) C dX11_copy_132 (by decide) ?_
                          refine g_iload_n C dX11_copy_134 rfl 4 rfl ?_
                          refine g_imul C dX11_copy_135 ?_
                          refine g_iload C dX11_copy_136 5 rfl ?_
                          refine g_iadd C dX11_copy_138 ?_
                          refine g_iload C dX11_copy_139 0 rfl ?_
                          refine g_iadd C dX11_copy_141 ?_
                          refine g_aload_n C dX11_copy_142 rfl 1 rfl ?_
                          refine g_getQ C dX11_copy_143 ft_510 z0 (hWF.q z0 26 rfl) ?_
                          have zz31 := hWF.r z0 26 rfl
                          refine g_bipush (v := (24 : Int32)) C dX11_copy_146 (by decide) ?_
                          refine g_iload_n C dX11_copy_148 rfl 2 rfl ?_
                          refine g_imul C dX11_copy_149 ?_
                          refine g_iload_n C dX11_copy_150 rfl 3 rfl ?_
                          refine g_iadd C dX11_copy_151 ?_
                          refine g_iload C dX11_copy_152 0 rfl ?_
                          refine g_iadd C dX11_copy_154 ?_
                          refine g_lald C dX11_copy_155 zz31 hw.1 ?_
                          have hw := hw.2
                          refine g_last C dX11_copy_156 zz30 hw.1 ?_
                          have hw := hw.2
                          refine g_iinc (v := (x6_19 + (1 : Int32))) (lv' := [(6, .int (x6_19 + (1 : Int32))), (7, .int x6_19), (0, .ref (ad h0)), (1, .int x1), (2, .int x2), (3, .int x3), (4, .int x4), (5, .int x5)]) C dX11_copy_157 (q := 7) rfl rfl (by decide) rfl ?_
                          refine g_goto C dX11_copy_160 (tgt := 101) (by decide) ?_
                          refine g_sub [2, 3, 4, 5, 6, 7, 0] rfl ?_
                          exact ih_u26 (stj J_19 (rq Q h0 26) ((((24 : Int32) * x3) + x4) + x6_19).toNatClampNeg (J_19 (rq Q h0 26) ((((24 : Int32) * x1) + x2) + x6_19).toNatClampNeg)) (x6_19 + (1 : Int32)) hw hWF
                        · have hw := hw.2 c29
                          refine g_iload C dX11_copy_114 5 rfl ?_
                          refine g_iconst (v := (1 : Int32)) C dX11_copy_116 (by decide) ?_
                          refine g_isub C dX11_copy_117 ?_
                          refine g_iload C dX11_copy_118 6 rfl ?_
                          refine g_isub C dX11_copy_120 ?_
                          refine g_goto C dX11_copy_121 (tgt := 126) (by decide) ?_
                          refine g_istore (lv' := [(7, .int ((x5 - (1 : Int32)) - x6_19)), (0, .ref (ad h0)), (1, .int x1), (2, .int x2), (3, .int x3), (4, .int x4), (5, .int x5), (6, .int x6_19)]) C dX11_copy_126 (by decide) rfl ?_
                          refine g_aload_n C dX11_copy_128 rfl 1 rfl ?_
                          refine g_getQ C dX11_copy_129 ft_510 z0 (hWF.q z0 26 rfl) ?_
                          have zz32 := hWF.r z0 26 rfl
                          refine g_bipush (v := (24 : Int32)) C dX11_copy_132 (by decide) ?_
                          refine g_iload_n C dX11_copy_134 rfl 4 rfl ?_
                          refine g_imul C dX11_copy_135 ?_
                          refine g_iload C dX11_copy_136 5 rfl ?_
                          refine g_iadd C dX11_copy_138 ?_
                          refine g_iload C dX11_copy_139 0 rfl ?_
                          refine g_iadd C dX11_copy_141 ?_
                          refine g_aload_n C dX11_copy_142 rfl 1 rfl ?_
                          refine g_getQ C dX11_copy_143 ft_510 z0 (hWF.q z0 26 rfl) ?_
                          have zz33 := hWF.r z0 26 rfl
                          refine g_bipush (v := (24 : Int32)) C dX11_copy_146 (by decide) ?_
                          refine g_iload_n C dX11_copy_148 rfl 2 rfl ?_
                          refine g_imul C dX11_copy_149 ?_
                          refine g_iload_n C dX11_copy_150 rfl 3 rfl ?_
                          refine g_iadd C dX11_copy_151 ?_
                          refine g_iload C dX11_copy_152 0 rfl ?_
                          refine g_iadd C dX11_copy_154 ?_
                          refine g_lald C dX11_copy_155 zz33 hw.1 ?_
                          have hw := hw.2
                          refine g_last C dX11_copy_156 zz32 hw.1 ?_
                          have hw := hw.2
                          refine g_iinc (v := (x6_19 + (1 : Int32))) (lv' := [(6, .int (x6_19 + (1 : Int32))), (7, .int ((x5 - (1 : Int32)) - x6_19)), (0, .ref (ad h0)), (1, .int x1), (2, .int x2), (3, .int x3), (4, .int x4), (5, .int x5)]) C dX11_copy_157 (q := 7) rfl rfl (by decide) rfl ?_
                          refine g_goto C dX11_copy_160 (tgt := 101) (by decide) ?_
                          refine g_sub [2, 3, 4, 5, 6, 7, 0] rfl ?_
                          exact ih_u26 (stj J_19 (rq Q h0 26) ((((24 : Int32) * x3) + x4) + ((x5 - (1 : Int32)) - x6_19)).toNatClampNeg (J_19 (rq Q h0 26) ((((24 : Int32) * x1) + x2) + ((x5 - (1 : Int32)) - x6_19)).toNatClampNeg)) (x6_19 + (1 : Int32)) hw hWF
                  obtain ⟨n_u26, hw⟩ := hw
                  refine g_sub [1, 2, 3, 4, 5, 6, 0] rfl ?_
                  exact L101_u26 n_u26 J (0 : Int32) hw hWF
                · have hw := hw.2 c18
                  refine g_bipush (v := (-13 : Int32)) C dX11_copy_95 (by decide) ?_
                  exact g_iret C dX11_copy_97 hr ⟨hw, rfl, rfl, hWF⟩
          · have hw := hw.2 c11
            refine g_bipush (v := (-12 : Int32)) C dX11_copy_52 (by decide) ?_
            exact g_iret C dX11_copy_54 hr ⟨hw, rfl, rfl, hWF⟩
        · have hw := hw.2 c8
          refine g_bipush (v := (-11 : Int32)) C dX11_copy_34 (by decide) ?_
          exact g_iret C dX11_copy_36 hr ⟨hw, rfl, rfl, hWF⟩
    · have hw := hw.2 c4
      refine g_iconst (v := (-1 : Int32)) C dX11_copy_14 (by decide) ?_
      exact g_iret C dX11_copy_15 hr ⟨hw, rfl, rfl, hWF⟩
