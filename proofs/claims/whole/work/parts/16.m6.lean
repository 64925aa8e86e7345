def wp_X10_could_L46 (If_8 : KI) (Jf_8 : KJ) (Qf_8 : KQ) (f0_8 : Nat) (f3_8 : Int32) (f5_8 : Nat) (post : Int32 → KI → Prop) (k109 : Prop) : Nat → Int32 → Prop
  | 0, _ => False
  | n46 + 1, x6_8 => (((If_8 (rq Qf_8 f0_8 0) 3) ≤ x6_8 → k109) ∧ (¬ (If_8 (rq Qf_8 f0_8 0) 3) ≤ x6_8 → (vp_in (f3_8 + x6_8) 24 ∧ (((lg_cmp (Jf_8 (rq Qf_8 f5_8 0) (f3_8 + x6_8).toNatClampNeg) (0 : Int64)) < 0 → (((lg_cmp (Jf_8 (rq Qf_8 f5_8 0) (f3_8 + x6_8).toNatClampNeg) (9 : Int64)) = 0 → wp_X10_could_L46 If_8 Jf_8 Qf_8 f0_8 f3_8 f5_8 post k109 n46 (x6_8 + (1 : Int32))) ∧ (¬ (lg_cmp (Jf_8 (rq Qf_8 f5_8 0) (f3_8 + x6_8).toNatClampNeg) (9 : Int64)) = 0 → post (-2 : Int32) If_8))) ∧ (¬ (lg_cmp (Jf_8 (rq Qf_8 f5_8 0) (f3_8 + x6_8).toNatClampNeg) (0 : Int64)) < 0 → (((lg_cmp (Jf_8 (rq Qf_8 f5_8 0) (f3_8 + x6_8).toNatClampNeg) ((If_8 (rq Qf_8 f0_8 0) 4).toInt64)) < 0 → wp_X10_could_L46 If_8 Jf_8 Qf_8 f0_8 f3_8 f5_8 post k109 n46 (x6_8 + (1 : Int32))) ∧ (¬ (lg_cmp (Jf_8 (rq Qf_8 f5_8 0) (f3_8 + x6_8).toNatClampNeg) ((If_8 (rq Qf_8 f0_8 0) 4).toInt64)) < 0 → (((lg_cmp (Jf_8 (rq Qf_8 f5_8 0) (f3_8 + x6_8).toNatClampNeg) (9 : Int64)) = 0 → wp_X10_could_L46 If_8 Jf_8 Qf_8 f0_8 f3_8 f5_8 post k109 n46 (x6_8 + (1 : Int32))) ∧ (¬ (lg_cmp (Jf_8 (rq Qf_8 f5_8 0) (f3_8 + x6_8).toNatClampNeg) (9 : Int64)) = 0 → post (-2 : Int32) If_8)))))))))
def wp_X10_could (I : KI) (J : KJ) (Q : KQ) (h0 : Nat) (x1 : Int32) (x2 : Int32) (x3 : Int32) (post : Int32 → KI → Prop) : Prop := wp_X10_refusal I Q h0 x1 x2 (fun r1 => ((r1 = 0 → (vp_in x1 4 ∧ wp_X6_covers I (rq Q (rq Q h0 10) x1.toNatClampNeg) x3 (I (rq Q h0 0) 3) (fun r6 => ((¬ r6 = 0 → (∃ q46, wp_X10_could_L46 I J Q h0 x3 (rq Q (rq Q h0 10) x1.toNatClampNeg) post (wp_X10_sentBy I J Q h0 (0 : Int32) (rq Q (rq Q h0 10) x1.toNatClampNeg) x3 (fun r19 I19 => ((r19 = 0 → wp_X10_sentBy I19 J Q h0 (1 : Int32) (rq Q (rq Q h0 10) x1.toNatClampNeg) x3 (fun r21 I21 => ((r21 = 0 → post ((0 : Int32) + (0 : Int32)) I21) ∧ (¬ r21 = 0 → post ((0 : Int32) + (2 : Int32)) I21)))) ∧ (¬ r19 = 0 → wp_X10_sentBy I19 J Q h0 (1 : Int32) (rq Q (rq Q h0 10) x1.toNatClampNeg) x3 (fun r23 I23 => ((r23 = 0 → post ((1 : Int32) + (0 : Int32)) I23) ∧ (¬ r23 = 0 → post ((1 : Int32) + (2 : Int32)) I23))))))) q46 (0 : Int32))) ∧ (r6 = 0 → post (-13 : Int32) I))))) ∧ (¬ r1 = 0 → post r1 I)))
set_option maxHeartbeats 4000000 in
set_option maxRecDepth 100000 in
theorem met_X10_could {Z : Nat → Prop} {A : Nat → Prop} {D : va_G} {D2 : Nat → ClassId} {ad : Nat → Nat} {N : Nat} {T : Nat → Nat × Nat} (l : Launch) {I : KI} {J : KJ} {Q : KQ} {h0 : Nat} {x1 : Int32} {x2 : Int32} {x3 : Int32} {post : Int32 → KI → Prop} (hWF : WF Z N T Q) (z0 : OKr Z N T h0 (10, 0)) (hw : wp_X10_could I J Q h0 x1 x2 x3 post) : Met l yX10_could (.code yX10_could cX10_could 9 (some .int) :: BIG) ({ frames := 5, cells := 0, slots := 0, locals := 120 }) (Pr D D2 A ad N T I J Q [.ref (ad h0), .int x1, .int x2, .int x3]) (va_Qi (fun (r : Int32) (u : KS) => post r u.1 ∧ u.2.1 = J ∧ u.2.2 = Q ∧ WF Z N T u.2.2) (Bw D D2 ad N T) A) 0 0 A := by
  refine Met_GG (lv0 := [(0, .ref (ad h0)), (1, .int x1), (2, .int x2), (3, .int x3)]) (by decide +kernel) [.ref (ad h0), .int x1, .int x2, .int x3] (Nat.le_of_ble_eq_true rfl) rfl ?_
  intro p e s m below meth c C hr
  have C : CX p s m [.ref (ad h0), .int x1, .int x2, .int x3].toArray meth c cX10_could 9 RX10 A D D2 := C
  unfold wp_X10_could at hw
  refine g_aload_n C dX10_could_0 rfl 0 rfl ?_
  refine g_iload_n C dX10_could_1 rfl 1 rfl ?_
  refine g_iload_n C dX10_could_2 rfl 2 rfl ?_
  refine g_callVi (As := [.int x1, .int x2]) C dX10_could_3 ft_330 z0 ft_354 ft_355 (met_X10_refusal l hWF z0 hw) ⟨rfl, rfl, Nat.le_of_ble_eq_true rfl, Nat.le_of_ble_eq_true rfl⟩ ⟨Nat.zero_le _, Nat.zero_le _⟩ rfl rfl (Nat.le_of_ble_eq_true rfl) (fun r1 I1 J1 Q1 hp => ?_)
  obtain ⟨hw, eI, eJ, eQ, hWF⟩ := hp
  have eI : I = I1 := Eq.symm eI
  subst eI
  have eJ : J = J1 := Eq.symm eJ
  subst eJ
  have eQ : Q = Q1 := Eq.symm eQ
  subst eQ
  try dsimp only at hw hWF
  refine g_istore (lv' := [(4, .int r1), (0, .ref (ad h0)), (1, .int x1), (2, .int x2), (3, .int x3)]) C dX10_could_6 (by decide) rfl ?_
  refine g_iload C dX10_could_8 0 rfl ?_
  refine g_if_eq (tgt := 16) C dX10_could_10 (by decide) (fun c2 => ?_) (fun c2 => ?_)
  · have hw := hw.1 c2
    refine g_aload_n C dX10_could_16 rfl 1 rfl ?_
    refine g_getQ C dX10_could_17 ft_339 z0 (hWF.q z0 10 rfl) ?_
    have zz3 := hWF.r z0 10 rfl
    refine g_iload_n C dX10_could_20 rfl 2 rfl ?_
    have hrzz4 := rft_eR hw.1
    refine g_aaldR C dX10_could_21 zz3 hw.1 (hWF.q zz3 _ hrzz4) ?_
    have zz4 := hWF.r zz3 _ hrzz4
    have hw := hw.2
    refine g_astore (lv' := [(5, .ref (ad (rq Q (rq Q h0 10) x1.toNatClampNeg))), (4, .int r1), (0, .ref (ad h0)), (1, .int x1), (2, .int x2), (3, .int x3)]) C dX10_could_22 (by decide) rfl ?_
    refine g_aload C dX10_could_24 0 rfl ?_
    refine g_iload_n C dX10_could_26 rfl 5 rfl ?_
    refine g_aload_n C dX10_could_27 rfl 2 rfl ?_
    refine g_getQ C dX10_could_28 ft_247 z0 (hWF.q z0 0 rfl) ?_
    have zz5 := hWF.r z0 0 rfl
    refine g_getI C dX10_could_31 ft_272 zz5 ?_
    refine g_callVi (As := [.int x3, .int (I (rq Q h0 0) 3)]) C dX10_could_34 ft_343 zz4 ft_352 ft_353 (met_X6_covers l hWF zz4 hw) ⟨rfl, rfl, Nat.le_of_ble_eq_true rfl, Nat.le_of_ble_eq_true rfl⟩ ⟨Nat.zero_le _, Nat.zero_le _⟩ rfl rfl (Nat.le_of_ble_eq_true rfl) (fun r6 I6 J6 Q6 hp => ?_)
    obtain ⟨hw, eI, eJ, eQ, hWF⟩ := hp
    have eI : I = I6 := Eq.symm eI
    subst eI
    have eJ : J = J6 := Eq.symm eJ
    subst eJ
    have eQ : Q = Q6 := Eq.symm eQ
    subst eQ
    try dsimp only at hw hWF
    refine g_if_ne (tgt := 43) C dX10_could_37 (by decide) (fun c7 => ?_) (fun c7 => ?_)
    · have hw := hw.1 c7
      refine g_iconst (v := (0 : Int32)) C dX10_could_43 (by decide) ?_
      refine g_istore (lv' := [(6, .int (0 : Int32)), (5, .ref (ad (rq Q (rq Q h0 10) x1.toNatClampNeg))), (4, .int r1), (0, .ref (ad h0)), (1, .int x1), (2, .int x2), (3, .int x3)]) C dX10_could_44 (by decide) rfl ?_
      have K109_u17 : (wp_X10_sentBy I J Q h0 (0 : Int32) (rq Q (rq Q h0 10) x1.toNatClampNeg) x3 (fun r19 I19 => ((r19 = 0 → wp_X10_sentBy I19 J Q h0 (1 : Int32) (rq Q (rq Q h0 10) x1.toNatClampNeg) x3 (fun r21 I21 => ((r21 = 0 → post ((0 : Int32) + (0 : Int32)) I21) ∧ (¬ r21 = 0 → post ((0 : Int32) + (2 : Int32)) I21)))) ∧ (¬ r19 = 0 → wp_X10_sentBy I19 J Q h0 (1 : Int32) (rq Q (rq Q h0 10) x1.toNatClampNeg) x3 (fun r23 I23 => ((r23 = 0 → post ((1 : Int32) + (0 : Int32)) I23) ∧ (¬ r23 = 0 → post ((1 : Int32) + (2 : Int32)) I23))))))) → WF Z N T Q → GG p l e ({ frames := 5, cells := 0, slots := 0, locals := 120 }) s m [.ref (ad h0), .int x1, .int x2, .int x3].toArray below meth c 9 A D D2 0 0 (MQ below (va_Qi (fun (r : Int32) (u : KS) => post r u.1 ∧ u.2.1 = J ∧ u.2.2 = Q ∧ WF Z N T u.2.2) (Bw D D2 ad N T) A) [.ref (ad h0), .int x1, .int x2, .int x3].toArray s 0 0 A) ad N T I J Q 109 [(0, .ref (ad h0)), (3, .int x3), (5, .ref (ad (rq Q (rq Q h0 10) x1.toNatClampNeg)))] [] := by
        intro  hw hWF
        refine g_aload_n C dX10_could_109 rfl 0 rfl ?_
        refine g_iconst (v := (0 : Int32)) C dX10_could_110 (by decide) ?_
        refine g_aload C dX10_could_111 2 rfl ?_
        refine g_iload_n C dX10_could_113 rfl 1 rfl ?_
        refine g_callVi (As := [.int (0 : Int32), .ref (ad (rq Q (rq Q h0 10) x1.toNatClampNeg)), .int x3]) C dX10_could_114 ft_330 z0 ft_350 ft_351 (met_X10_sentBy l hWF z0 zz4 hw) ⟨rfl, rfl, Nat.le_of_ble_eq_true rfl, Nat.le_of_ble_eq_true rfl⟩ ⟨Nat.zero_le _, Nat.zero_le _⟩ rfl rfl (Nat.le_of_ble_eq_true rfl) (fun r19 I19 J19 Q19 hp => ?_)
        obtain ⟨hw, eJ, eQ, hWF⟩ := hp
        have eJ : J = J19 := Eq.symm eJ
        subst eJ
        have eQ : Q = Q19 := Eq.symm eQ
        subst eQ
        try dsimp only at hw hWF
        refine g_if_eq (tgt := 124) C dX10_could_117 (by decide) (fun c20 => ?_) (fun c20 => ?_)
        · have hw := hw.1 c20
          refine g_iconst (v := (0 : Int32)) C dX10_could_124 (by decide) ?_
          refine g_aload_n C dX10_could_125 rfl 0 rfl ?_
          refine g_iconst (v := (1 : Int32)) C dX10_could_126 (by decide) ?_
          refine g_aload C dX10_could_127 2 rfl ?_
          refine g_iload_n C dX10_could_129 rfl 1 rfl ?_
          refine g_callVi (As := [.int (1 : Int32), .ref (ad (rq Q (rq Q h0 10) x1.toNatClampNeg)), .int x3]) C dX10_could_130 ft_330 z0 ft_350 ft_351 (met_X10_sentBy l hWF z0 zz4 hw) ⟨rfl, rfl, Nat.le_of_ble_eq_true rfl, Nat.le_of_ble_eq_true rfl⟩ ⟨Nat.zero_le _, Nat.zero_le _⟩ rfl rfl (Nat.le_of_ble_eq_true rfl) (fun r21 I21 J21 Q21 hp => ?_)
          obtain ⟨hw, eJ, eQ, hWF⟩ := hp
          have eJ : J = J21 := Eq.symm eJ
          subst eJ
          have eQ : Q = Q21 := Eq.symm eQ
          subst eQ
          try dsimp only at hw hWF
          refine g_if_eq (tgt := 140) C dX10_could_133 (by decide) (fun c22 => ?_) (fun c22 => ?_)
          · have hw := hw.1 c22
            refine g_iconst (v := (0 : Int32)) C dX10_could_140 (by decide) ?_
            refine g_iadd C dX10_could_141 ?_
            exact g_iret C dX10_could_142 hr ⟨hw, rfl, rfl, hWF⟩
          · have hw := hw.2 c22
            refine g_iconst (v := (2 : Int32)) C dX10_could_136 (by decide) ?_
            refine g_goto C dX10_could_137 (tgt := 141) (by decide) ?_
            refine g_iadd C dX10_could_141 ?_
            exact g_iret C dX10_could_142 hr ⟨hw, rfl, rfl, hWF⟩
        · have hw := hw.2 c20
          refine g_iconst (v := (1 : Int32)) C dX10_could_120 (by decide) ?_
          refine g_goto C dX10_could_121 (tgt := 125) (by decide) ?_
          refine g_aload_n C dX10_could_125 rfl 0 rfl ?_
          refine g_iconst (v := (1 : Int32)) C dX10_could_126 (by decide) ?_
          refine g_aload C dX10_could_127 2 rfl ?_
          refine g_iload_n C dX10_could_129 rfl 1 rfl ?_
          refine g_callVi (As := [.int (1 : Int32), .ref (ad (rq Q (rq Q h0 10) x1.toNatClampNeg)), .int x3]) C dX10_could_130 ft_330 z0 ft_350 ft_351 (met_X10_sentBy l hWF z0 zz4 hw) ⟨rfl, rfl, Nat.le_of_ble_eq_true rfl, Nat.le_of_ble_eq_true rfl⟩ ⟨Nat.zero_le _, Nat.zero_le _⟩ rfl rfl (Nat.le_of_ble_eq_true rfl) (fun r23 I23 J23 Q23 hp => ?_)
          obtain ⟨hw, eJ, eQ, hWF⟩ := hp
          have eJ : J = J23 := Eq.symm eJ
          subst eJ
          have eQ : Q = Q23 := Eq.symm eQ
          subst eQ
          try dsimp only at hw hWF
          refine g_if_eq (tgt := 140) C dX10_could_133 (by decide) (fun c24 => ?_) (fun c24 => ?_)
          · have hw := hw.1 c24
            refine g_iconst (v := (0 : Int32)) C dX10_could_140 (by decide) ?_
            refine g_iadd C dX10_could_141 ?_
            exact g_iret C dX10_could_142 hr ⟨hw, rfl, rfl, hWF⟩
          · have hw := hw.2 c24
            refine g_iconst (v := (2 : Int32)) C dX10_could_136 (by decide) ?_
            refine g_goto C dX10_could_137 (tgt := 141) (by decide) ?_
            refine g_iadd C dX10_could_141 ?_
            exact g_iret C dX10_could_142 hr ⟨hw, rfl, rfl, hWF⟩
      have L46_u17 : ∀ (n46 : Nat) (x6_8 : Int32), wp_X10_could_L46 I J Q h0 x3 (rq Q (rq Q h0 10) x1.toNatClampNeg) post (wp_X10_sentBy I J Q h0 (0 : Int32) (rq Q (rq Q h0 10) x1.toNatClampNeg) x3 (fun r19 I19 => ((r19 = 0 → wp_X10_sentBy I19 J Q h0 (1 : Int32) (rq Q (rq Q h0 10) x1.toNatClampNeg) x3 (fun r21 I21 => ((r21 = 0 → post ((0 : Int32) + (0 : Int32)) I21) ∧ (¬ r21 = 0 → post ((0 : Int32) + (2 : Int32)) I21)))) ∧ (¬ r19 = 0 → wp_X10_sentBy I19 J Q h0 (1 : Int32) (rq Q (rq Q h0 10) x1.toNatClampNeg) x3 (fun r23 I23 => ((r23 = 0 → post ((1 : Int32) + (0 : Int32)) I23) ∧ (¬ r23 = 0 → post ((1 : Int32) + (2 : Int32)) I23))))))) n46 x6_8 → WF Z N T Q → GG p l e ({ frames := 5, cells := 0, slots := 0, locals := 120 }) s m [.ref (ad h0), .int x1, .int x2, .int x3].toArray below meth c 9 A D D2 0 0 (MQ below (va_Qi (fun (r : Int32) (u : KS) => post r u.1 ∧ u.2.1 = J ∧ u.2.2 = Q ∧ WF Z N T u.2.2) (Bw D D2 ad N T) A) [.ref (ad h0), .int x1, .int x2, .int x3].toArray s 0 0 A) ad N T I J Q 46 [(0, .ref (ad h0)), (3, .int x3), (5, .ref (ad (rq Q (rq Q h0 10) x1.toNatClampNeg))), (6, .int x6_8)] [] := by
        intro n46
        induction n46 with
        | zero => intro x6_8 hw; exact hw.elim
        | succ n46 ih_u17 =>
          intro x6_8 hw hWF
          unfold wp_X10_could_L46 at hw
          refine g_iload C dX10_could_46 3 rfl ?_
          refine g_aload_n C dX10_could_48 rfl 0 rfl ?_
          refine g_getQ C dX10_could_49 ft_247 z0 (hWF.q z0 0 rfl) ?_
          have zz26 := hWF.r z0 0 rfl
          refine g_getI C dX10_could_52 ft_272 zz26 ?_
          refine g_icmp_ge (tgt := 109) C dX10_could_55 (by decide) (fun c27 => ?_) (fun c27 => ?_)
          · have hw := hw.1 c27
            refine g_sub [0, 1, 2] rfl ?_
            exact K109_u17 hw hWF
          · have hw := hw.2 c27
            refine g_aload C dX10_could_58 2 rfl ?_
            refine g_getQ C dX10_could_60 ft_348 zz4 (hWF.q zz4 0 rfl) ?_
            have zz28 := hWF.r zz4 0 rfl
            refine g_iload_n C dX10_could_63 rfl 1 rfl ?_
            refine g_iload C dX10_could_64 3 rfl ?_
            refine g_iadd C dX10_could_66 ?_
            refine g_lald C dX10_could_67 zz28 hw.1 ?_
            have hw := hw.2
            refine g_lstore (lv' := [(7, .long (J (rq Q (rq Q (rq Q h0 10) x1.toNatClampNeg) 0) (x3 + x6_8).toNatClampNeg)), (0, .ref (ad h0)), (3, .int x3), (5, .ref (ad (rq Q (rq Q h0 10) x1.toNatClampNeg))), (6, .int x6_8)]) C dX10_could_68 (by decide) rfl ?_
            refine g_lload C dX10_could_70 0 rfl ?_
            refine g_lconst (v := (0 : Int64)) C dX10_could_72 (by decide) ?_
            refine g_lcmp C dX10_could_73 ?_
            refine g_if_lt (tgt := 91) C dX10_could_74 (by decide) (fun c29 => ?_) (fun c29 => ?_)
            · have hw := hw.1 c29
              refine g_lload C dX10_could_91 0 rfl ?_
              refine g_ldc2 C dX10_could_93 ft_349 ?_
              refine g_lcmp C dX10_could_96 ?_
              refine g_if_eq (tgt := 103) C dX10_could_97 (by decide) (fun c30 => ?_) (fun c30 => ?_)
              · have hw := hw.1 c30
                refine g_iinc (v := (x6_8 + (1 : Int32))) (lv' := [(6, .int (x6_8 + (1 : Int32))), (7, .long (J (rq Q (rq Q (rq Q h0 10) x1.toNatClampNeg) 0) (x3 + x6_8).toNatClampNeg)), (0, .ref (ad h0)), (3, .int x3), (5, .ref (ad (rq Q (rq Q h0 10) x1.toNatClampNeg)))]) C dX10_could_103 (q := 4) rfl rfl (by decide) rfl ?_
                refine g_goto C dX10_could_106 (tgt := 46) (by decide) ?_
                refine g_sub [2, 3, 4, 0] rfl ?_
                exact ih_u17 (x6_8 + (1 : Int32)) hw hWF
              · have hw := hw.2 c30
                refine g_bipush (v := (-2 : Int32)) C dX10_could_100 (by decide) ?_
                exact g_iret C dX10_could_102 hr ⟨hw, rfl, rfl, hWF⟩
            · have hw := hw.2 c29
              refine g_lload C dX10_could_77 0 rfl ?_
              refine g_aload_n C dX10_could_79 rfl 1 rfl ?_
              refine g_getQ C dX10_could_80 ft_247 z0 (hWF.q z0 0 rfl) ?_
              have zz31 := hWF.r z0 0 rfl
              refine g_getI C dX10_could_83 ft_273 zz31 ?_
              refine g_i2l C dX10_could_86 ?_
              refine g_lcmp C dX10_could_87 ?_
              refine g_if_lt (tgt := 103) C dX10_could_88 (by decide) (fun c32 => ?_) (fun c32 => ?_)
              · have hw := hw.1 c32
                refine g_iinc (v := (x6_8 + (1 : Int32))) (lv' := [(6, .int (x6_8 + (1 : Int32))), (7, .long (J (rq Q (rq Q (rq Q h0 10) x1.toNatClampNeg) 0) (x3 + x6_8).toNatClampNeg)), (0, .ref (ad h0)), (3, .int x3), (5, .ref (ad (rq Q (rq Q h0 10) x1.toNatClampNeg)))]) C dX10_could_103 (q := 4) rfl rfl (by decide) rfl ?_
                refine g_goto C dX10_could_106 (tgt := 46) (by decide) ?_
                refine g_sub [2, 3, 4, 0] rfl ?_
                exact ih_u17 (x6_8 + (1 : Int32)) hw hWF
              · have hw := hw.2 c32
                refine g_lload C dX10_could_91 0 rfl ?_
                refine g_ldc2 C dX10_could_93 ft_349 ?_
                refine g_lcmp C dX10_could_96 ?_
                refine g_if_eq (tgt := 103) C dX10_could_97 (by decide) (fun c33 => ?_) (fun c33 => ?_)
                · have hw := hw.1 c33
                  refine g_iinc (v := (x6_8 + (1 : Int32))) (lv' := [(6, .int (x6_8 + (1 : Int32))), (7, .long (J (rq Q (rq Q (rq Q h0 10) x1.toNatClampNeg) 0) (x3 + x6_8).toNatClampNeg)), (0, .ref (ad h0)), (3, .int x3), (5, .ref (ad (rq Q (rq Q h0 10) x1.toNatClampNeg)))]) C dX10_could_103 (q := 4) rfl rfl (by decide) rfl ?_
                  refine g_goto C dX10_could_106 (tgt := 46) (by decide) ?_
                  refine g_sub [2, 3, 4, 0] rfl ?_
                  exact ih_u17 (x6_8 + (1 : Int32)) hw hWF
                · have hw := hw.2 c33
                  refine g_bipush (v := (-2 : Int32)) C dX10_could_100 (by decide) ?_
                  exact g_iret C dX10_could_102 hr ⟨hw, rfl, rfl, hWF⟩
      obtain ⟨n_u17, hw⟩ := hw
      refine g_sub [3, 6, 1, 0] rfl ?_
      exact L46_u17 n_u17 (0 : Int32) hw hWF
    · have hw := hw.2 c7
      refine g_bipush (v := (-13 : Int32)) C dX10_could_40 (by decide) ?_
      exact g_iret C dX10_could_42 hr ⟨hw, rfl, rfl, hWF⟩
  · have hw := hw.2 c2
    refine g_iload C dX10_could_13 0 rfl ?_
    exact g_iret C dX10_could_15 hr ⟨hw, rfl, rfl, hWF⟩
def wp_X10_film_L67 (If_15 : KI) (Qf_15 : KQ) (f0_15 : Nat) (f1_15 : Int32) (f2_15 : Int32) (f4_15 : Int32) (f6_15 : Int32) (post : Int32 → KJ → Prop) : Nat → KJ → Int32 → Prop
  | 0, _, _ => False
  | n67 + 1, J_15, x7_15 => ((f6_15 ≤ x7_15 → post f6_15 J_15) ∧ (¬ f6_15 ≤ x7_15 → (vp_in f2_15 4 ∧ (vp_in f1_15 6 ∧ wp_X7_row If_15 Qf_15 (rq Qf_15 (rq Qf_15 (rq Qf_15 f0_15 0) 1) f1_15.toNatClampNeg) x7_15 (fun r22 => wp_X6_set If_15 J_15 Qf_15 (rq Qf_15 (rq Qf_15 f0_15 10) f2_15.toNatClampNeg) (f4_15 + x7_15) (r22.toInt64) (fun J23 => wp_X10_film_L67 If_15 Qf_15 f0_15 f1_15 f2_15 f4_15 f6_15 post n67 J23 (x7_15 + (1 : Int32))))))))
def wp_X10_film (I : KI) (J : KJ) (Q : KQ) (h0 : Nat) (x1 : Int32) (x2 : Int32) (x3 : Int32) (x4 : Int32) (post : Int32 → KJ → Prop) : Prop := wp_X1_hasNode I (rq Q h0 0) x1 (fun r2 => ((r2 = 0 → post (-1 : Int32) J) ∧ (¬ r2 = 0 → wp_X10_refusal I Q h0 x2 x3 (fun r5 => ((r5 = 0 → (vp_in x1 6 ∧ wp_X7_rank I Q (rq Q (rq Q (rq Q h0 0) 1) x1.toNatClampNeg) (fun r10 => (vp_in x2 4 ∧ wp_X6_covers I (rq Q (rq Q h0 10) x2.toNatClampNeg) x4 r10 (fun r13 => ((¬ r13 = 0 → (∃ q67, wp_X10_film_L67 I Q h0 x1 x2 x4 r10 post q67 J (0 : Int32))) ∧ (r13 = 0 → post (-13 : Int32) J))))))) ∧ (¬ r5 = 0 → post r5 J))))))
set_option maxHeartbeats 4000000 in
set_option maxRecDepth 100000 in
theorem met_X10_film {Z : Nat → Prop} {A : Nat → Prop} {D : va_G} {D2 : Nat → ClassId} {ad : Nat → Nat} {N : Nat} {T : Nat → Nat × Nat} (l : Launch) {I : KI} {J : KJ} {Q : KQ} {h0 : Nat} {x1 : Int32} {x2 : Int32} {x3 : Int32} {x4 : Int32} {post : Int32 → KJ → Prop} (hWF : WF Z N T Q) (z0 : OKr Z N T h0 (10, 0)) (hw : wp_X10_film I J Q h0 x1 x2 x3 x4 post) : Met l yX10_film (.code yX10_film cX10_film 8 (some .int) :: BIG) ({ frames := 2, cells := 0, slots := 0, locals := 42 }) (Pr D D2 A ad N T I J Q [.ref (ad h0), .int x1, .int x2, .int x3, .int x4]) (va_Qi (fun (r : Int32) (u : KS) => post r u.2.1 ∧ u.1 = I ∧ u.2.2 = Q ∧ WF Z N T u.2.2) (Bw D D2 ad N T) A) 0 0 A := by
  refine Met_GG (lv0 := [(0, .ref (ad h0)), (1, .int x1), (2, .int x2), (3, .int x3), (4, .int x4)]) (by decide +kernel) [.ref (ad h0), .int x1, .int x2, .int x3, .int x4] (Nat.le_of_ble_eq_true rfl) rfl ?_
  intro p e s m below meth c C hr
  have C : CX p s m [.ref (ad h0), .int x1, .int x2, .int x3, .int x4].toArray meth c cX10_film 8 RX10 A D D2 := C
  unfold wp_X10_film at hw
  refine g_aload_n C dX10_film_0 rfl 0 rfl ?_
  refine g_getQ C dX10_film_1 ft_247 z0 (hWF.q z0 0 rfl) ?_
  have zz1 := hWF.r z0 0 rfl
  refine g_iload_n C dX10_film_4 rfl 1 rfl ?_
  refine g_callVi (As := [.int x1]) C dX10_film_5 ft_46 zz1 ft_258 ft_259 (met_X1_hasNode l hWF zz1 hw) ⟨rfl, rfl, Nat.le_of_ble_eq_true rfl, Nat.le_of_ble_eq_true rfl⟩ ⟨Nat.zero_le _, Nat.zero_le _⟩ rfl rfl (Nat.le_of_ble_eq_true rfl) (fun r2 I2 J2 Q2 hp => ?_)
  obtain ⟨hw, eI, eJ, eQ, hWF⟩ := hp
  have eI : I = I2 := Eq.symm eI
  subst eI
  have eJ : J = J2 := Eq.symm eJ
  subst eJ
  have eQ : Q = Q2 := Eq.symm eQ
  subst eQ
  try dsimp only at hw hWF
  refine g_if_eq (tgt := 20) C dX10_film_8 (by decide) (fun c3 => ?_) (fun c3 => ?_)
  · have hw := hw.1 c3
    refine g_iconst (v := (-1 : Int32)) C dX10_film_20 (by decide) ?_
    refine g_istore (lv' := [(5, .int (-1 : Int32)), (0, .ref (ad h0)), (1, .int x1), (2, .int x2), (3, .int x3), (4, .int x4)]) C dX10_film_21 (by decide) rfl ?_
    refine g_iload C dX10_film_23 0 rfl ?_
    refine g_if_eq (tgt := 31) C dX10_film_25 (by decide) (fun c4 => absurd c4 (by decide)) (fun _ => ?_)
    refine g_iload C dX10_film_28 0 rfl ?_
    exact g_iret C dX10_film_30 hr ⟨hw, rfl, rfl, hWF⟩
  · have hw := hw.2 c3
    refine g_aload_n C dX10_film_11 rfl 0 rfl ?_
    refine g_iload_n C dX10_film_12 rfl 2 rfl ?_
    refine g_iload_n C dX10_film_13 rfl 3 rfl ?_
    refine g_callVi (As := [.int x2, .int x3]) C dX10_film_14 ft_330 z0 ft_354 ft_355 (met_X10_refusal l hWF z0 hw) ⟨rfl, rfl, Nat.le_of_ble_eq_true rfl, Nat.le_of_ble_eq_true rfl⟩ ⟨Nat.zero_le _, Nat.zero_le _⟩ rfl rfl (Nat.le_of_ble_eq_true rfl) (fun r5 I5 J5 Q5 hp => ?_)
    obtain ⟨hw, eI, eJ, eQ, hWF⟩ := hp
    have eI : I = I5 := Eq.symm eI
    subst eI
    have eJ : J = J5 := Eq.symm eJ
    subst eJ
    have eQ : Q = Q5 := Eq.symm eQ
    subst eQ
    try dsimp only at hw hWF
    refine g_goto C dX10_film_17 (tgt := 21) (by decide) ?_
    refine g_istore (lv' := [(5, .int r5), (0, .ref (ad h0)), (1, .int x1), (2, .int x2), (3, .int x3), (4, .int x4)]) C dX10_film_21 (by decide) rfl ?_
    refine g_iload C dX10_film_23 0 rfl ?_
    refine g_if_eq (tgt := 31) C dX10_film_25 (by decide) (fun c6 => ?_) (fun c6 => ?_)
    · have hw := hw.1 c6
      refine g_aload_n C dX10_film_31 rfl 1 rfl ?_
      refine g_getQ C dX10_film_32 ft_247 z0 (hWF.q z0 0 rfl) ?_
      have zz7 := hWF.r z0 0 rfl
      refine g_getQ C dX10_film_35 ft_249 zz7 (hWF.q zz7 1 rfl) ?_
      have zz8 := hWF.r zz7 1 rfl
      refine g_iload_n C dX10_film_38 rfl 2 rfl ?_
      have hrzz9 := rft_eS hw.1
      refine g_aaldS C dX10_film_39 zz8 hw.1 (hWF.q zz8 _ hrzz9) ?_
      have zz9 := hWF.r zz8 _ hrzz9
      have hw := hw.2
      refine g_callVi (As := []) C dX10_film_40 ft_22 zz9 ft_251 ft_32 (met_X7_rank l hWF zz9 hw) ⟨rfl, rfl, Nat.le_of_ble_eq_true rfl, Nat.le_of_ble_eq_true rfl⟩ ⟨Nat.zero_le _, Nat.zero_le _⟩ rfl rfl (Nat.le_of_ble_eq_true rfl) (fun r10 I10 J10 Q10 hp => ?_)
      obtain ⟨hw, eI, eJ, eQ, hWF⟩ := hp
      have eI : I = I10 := Eq.symm eI
      subst eI
      have eJ : J = J10 := Eq.symm eJ
      subst eJ
      have eQ : Q = Q10 := Eq.symm eQ
      subst eQ
      try dsimp only at hw hWF
      refine g_istore (lv' := [(6, .int r10), (5, .int r5), (0, .ref (ad h0)), (1, .int x1), (2, .int x2), (3, .int x3), (4, .int x4)]) C dX10_film_43 (by decide) rfl ?_
      refine g_aload_n C dX10_film_45 rfl 2 rfl ?_
      refine g_getQ C dX10_film_46 ft_339 z0 (hWF.q z0 10 rfl) ?_
      have zz11 := hWF.r z0 10 rfl
      refine g_iload_n C dX10_film_49 rfl 4 rfl ?_
      have hrzz12 := rft_eR hw.1
      refine g_aaldR C dX10_film_50 zz11 hw.1 (hWF.q zz11 _ hrzz12) ?_
      have zz12 := hWF.r zz11 _ hrzz12
      have hw := hw.2
      refine g_iload C dX10_film_51 6 rfl ?_
      refine g_iload C dX10_film_53 0 rfl ?_
      refine g_callVi (As := [.int x4, .int r10]) C dX10_film_55 ft_343 zz12 ft_352 ft_353 (met_X6_covers l hWF zz12 hw) ⟨rfl, rfl, Nat.le_of_ble_eq_true rfl, Nat.le_of_ble_eq_true rfl⟩ ⟨Nat.zero_le _, Nat.zero_le _⟩ rfl rfl (Nat.le_of_ble_eq_true rfl) (fun r13 I13 J13 Q13 hp => ?_)
      obtain ⟨hw, eI, eJ, eQ, hWF⟩ := hp
      have eI : I = I13 := Eq.symm eI
      subst eI
      have eJ : J = J13 := Eq.symm eJ
      subst eJ
      have eQ : Q = Q13 := Eq.symm eQ
      subst eQ
      try dsimp only at hw hWF
      refine g_if_ne (tgt := 64) C dX10_film_58 (by decide) (fun c14 => ?_) (fun c14 => ?_)
      · have hw := hw.1 c14
        refine g_iconst (v := (0 : Int32)) C dX10_film_64 (by decide) ?_
        refine g_istore (lv' := [(7, .int (0 : Int32)), (6, .int r10), (5, .int r5), (0, .ref (ad h0)), (1, .int x1), (2, .int x2), (3, .int x3), (4, .int x4)]) C dX10_film_65 (by decide) rfl ?_
        have L67_u24 : ∀ (n67 : Nat) (J_15 : KJ) (x7_15 : Int32), wp_X10_film_L67 I Q h0 x1 x2 x4 r10 post n67 J_15 x7_15 → WF Z N T Q → GG p l e ({ frames := 2, cells := 0, slots := 0, locals := 42 }) s m [.ref (ad h0), .int x1, .int x2, .int x3, .int x4].toArray below meth c 8 A D D2 0 0 (MQ below (va_Qi (fun (r : Int32) (u : KS) => post r u.2.1 ∧ u.1 = I ∧ u.2.2 = Q ∧ WF Z N T u.2.2) (Bw D D2 ad N T) A) [.ref (ad h0), .int x1, .int x2, .int x3, .int x4].toArray s 0 0 A) ad N T I J_15 Q 67 [(0, .ref (ad h0)), (1, .int x1), (2, .int x2), (4, .int x4), (6, .int r10), (7, .int x7_15)] [] := by
          intro n67
          induction n67 with
          | zero => intro J_15 x7_15 hw; exact hw.elim
          | succ n67 ih_u24 =>
            intro J_15 x7_15 hw hWF
            unfold wp_X10_film_L67 at hw
            refine g_iload C dX10_film_67 5 rfl ?_
            refine g_iload C dX10_film_69 4 rfl ?_
            refine g_icmp_ge (tgt := 109) C dX10_film_71 (by decide) (fun c26 => ?_) (fun c26 => ?_)
            · have hw := hw.1 c26
              refine g_iload C dX10_film_109 4 rfl ?_
              exact g_iret C dX10_film_111 hr ⟨hw, rfl, rfl, hWF⟩
            · have hw := hw.2 c26
              refine g_aload_n C dX10_film_74 rfl 0 rfl ?_
              refine g_getQ C dX10_film_75 ft_339 z0 (hWF.q z0 10 rfl) ?_
              have zz27 := hWF.r z0 10 rfl
              refine g_iload_n C dX10_film_78 rfl 2 rfl ?_
              have hrzz28 := rft_eR hw.1
              refine g_aaldR C dX10_film_79 zz27 hw.1 (hWF.q zz27 _ hrzz28) ?_
              have zz28 := hWF.r zz27 _ hrzz28
              have hw := hw.2
              refine g_iload C dX10_film_80 3 rfl ?_
              refine g_iload C dX10_film_82 5 rfl ?_
              refine g_iadd C dX10_film_84 ?_
              refine g_aload_n C dX10_film_85 rfl 0 rfl ?_
              refine g_getQ C dX10_film_86 ft_247 z0 (hWF.q z0 0 rfl) ?_
              have zz29 := hWF.r z0 0 rfl
              refine g_getQ C dX10_film_89 ft_249 zz29 (hWF.q zz29 1 rfl) ?_
              have zz30 := hWF.r zz29 1 rfl
              refine g_iload_n C dX10_film_92 rfl 1 rfl ?_
              have hrzz31 := rft_eS hw.1
              refine g_aaldS C dX10_film_93 zz30 hw.1 (hWF.q zz30 _ hrzz31) ?_
              have zz31 := hWF.r zz30 _ hrzz31
              have hw := hw.2
              refine g_iload C dX10_film_94 5 rfl ?_
              refine g_callVi (As := [.int x7_15]) C dX10_film_96 ft_22 zz31 ft_268 ft_269 (met_X7_row l hWF zz31 hw) ⟨rfl, rfl, Nat.le_of_ble_eq_true rfl, Nat.le_of_ble_eq_true rfl⟩ ⟨Nat.zero_le _, Nat.zero_le _⟩ rfl rfl (Nat.le_of_ble_eq_true rfl) (fun r32 I32 J32 Q32 hp => ?_)
              obtain ⟨hw, eI, eJ, eQ, hWF⟩ := hp
              have eI : I = I32 := Eq.symm eI
              subst eI
              have eJ : J_15 = J32 := Eq.symm eJ
              subst eJ
              have eQ : Q = Q32 := Eq.symm eQ
              subst eQ
              try dsimp only at hw hWF
              refine g_i2l C dX10_film_99 ?_
              refine g_callVv (As := [.int (x4 + x7_15), .long (r32.toInt64)]) C dX10_film_100 ft_343 zz28 ft_356 ft_357 (met_X6_set l hWF zz28 hw) ⟨rfl, rfl, Nat.le_of_ble_eq_true rfl, Nat.le_of_ble_eq_true rfl⟩ ⟨Nat.zero_le _, Nat.zero_le _⟩ rfl rfl (Nat.le_of_ble_eq_true rfl) (fun I33 J33 Q33 hp => ?_)
              obtain ⟨hw, eI, eQ, hWF⟩ := hp
              have eI : I = I33 := Eq.symm eI
              subst eI
              have eQ : Q = Q33 := Eq.symm eQ
              subst eQ
              try dsimp only at hw hWF
              refine g_iinc (v := (x7_15 + (1 : Int32))) (lv' := [(7, .int (x7_15 + (1 : Int32))), (0, .ref (ad h0)), (1, .int x1), (2, .int x2), (4, .int x4), (6, .int r10)]) C dX10_film_103 (q := 5) rfl rfl (by decide) rfl ?_
              refine g_goto C dX10_film_106 (tgt := 67) (by decide) ?_
              refine g_sub [1, 2, 3, 4, 5, 0] rfl ?_
              exact ih_u24 J33 (x7_15 + (1 : Int32)) hw hWF
        obtain ⟨n_u24, hw⟩ := hw
        refine g_sub [3, 4, 5, 7, 1, 0] rfl ?_
        exact L67_u24 n_u24 J (0 : Int32) hw hWF
      · have hw := hw.2 c14
        refine g_bipush (v := (-13 : Int32)) C dX10_film_61 (by decide) ?_
        exact g_iret C dX10_film_63 hr ⟨hw, rfl, rfl, hWF⟩
    · have hw := hw.2 c6
      refine g_iload C dX10_film_28 0 rfl ?_
      exact g_iret C dX10_film_30 hr ⟨hw, rfl, rfl, hWF⟩
def wp_X10_sheet (I : KI) (J : KJ) (Q : KQ) (h0 : Nat) (x1 : Int32) (x2 : Int32) (x3 : Int32) (post : Int32 → KI → KJ → Prop) : Prop := wp_X10_isSheet x1 (fun r1 => ((r1 = 0 → post (-1 : Int32) I J) ∧ (¬ r1 = 0 → wp_X10_isLane x2 (fun r3 => ((r3 = 0 → post (-1 : Int32) I J) ∧ (¬ r3 = 0 → ((x3 ≤ (24 : Int32) → ((0 ≤ x3 → (vp_in x1 4 ∧ wp_X6_renew I J Q (rq Q (rq Q h0 10) x1.toNatClampNeg) x2 x3 (fun I9 J9 => post x3 I9 J9))) ∧ (¬ 0 ≤ x3 → post (-14 : Int32) I J))) ∧ (¬ x3 ≤ (24 : Int32) → post (-1 : Int32) I J))))))))
set_option maxHeartbeats 4000000 in
set_option maxRecDepth 100000 in
theorem met_X10_sheet {Z : Nat → Prop} {A : Nat → Prop} {D : va_G} {D2 : Nat → ClassId} {ad : Nat → Nat} {N : Nat} {T : Nat → Nat × Nat} (l : Launch) {I : KI} {J : KJ} {Q : KQ} {h0 : Nat} {x1 : Int32} {x2 : Int32} {x3 : Int32} {post : Int32 → KI → KJ → Prop} (hWF : WF Z N T Q) (z0 : OKr Z N T h0 (10, 0)) (hw : wp_X10_sheet I J Q h0 x1 x2 x3 post) : Met l yX10_sheet (.code yX10_sheet cX10_sheet 4 (some .int) :: BIG) ({ frames := 1, cells := 0, slots := 0, locals := 23 }) (Pr D D2 A ad N T I J Q [.ref (ad h0), .int x1, .int x2, .int x3]) (va_Qi (fun (r : Int32) (u : KS) => post r u.1 u.2.1 ∧ u.2.2 = Q ∧ WF Z N T u.2.2) (Bw D D2 ad N T) A) 0 0 A := by
  refine Met_GG (lv0 := [(0, .ref (ad h0)), (1, .int x1), (2, .int x2), (3, .int x3)]) (by decide +kernel) [.ref (ad h0), .int x1, .int x2, .int x3] (Nat.le_of_ble_eq_true rfl) rfl ?_
  intro p e s m below meth c C hr
  have C : CX p s m [.ref (ad h0), .int x1, .int x2, .int x3].toArray meth c cX10_sheet 4 RX10 A D D2 := C
  unfold wp_X10_sheet at hw
  refine g_iload_n C dX10_sheet_0 rfl 1 rfl ?_
  refine g_callSi (As := [.int x1]) C dX10_sheet_1 ft_346 ft_347 (met_X10_isSheet l hWF  hw) ⟨rfl, rfl, Nat.le_of_ble_eq_true rfl, Nat.le_of_ble_eq_true rfl⟩ ⟨Nat.zero_le _, Nat.zero_le _⟩ rfl rfl (Nat.le_of_ble_eq_true rfl) (fun r1 I1 J1 Q1 hp => ?_)
  obtain ⟨hw, eI, eJ, eQ, hWF⟩ := hp
  have eI : I = I1 := Eq.symm eI
  subst eI
  have eJ : J = J1 := Eq.symm eJ
  subst eJ
  have eQ : Q = Q1 := Eq.symm eQ
  subst eQ
  try dsimp only at hw hWF
  refine g_if_eq (tgt := 20) C dX10_sheet_4 (by decide) (fun c2 => ?_) (fun c2 => ?_)
  · have hw := hw.1 c2
    refine g_iconst (v := (-1 : Int32)) C dX10_sheet_20 (by decide) ?_
    exact g_iret C dX10_sheet_21 hr ⟨hw, rfl, hWF⟩
  · have hw := hw.2 c2
    refine g_iload_n C dX10_sheet_7 rfl 2 rfl ?_
    refine g_callSi (As := [.int x2]) C dX10_sheet_8 ft_344 ft_345 (met_X10_isLane l hWF  hw) ⟨rfl, rfl, Nat.le_of_ble_eq_true rfl, Nat.le_of_ble_eq_true rfl⟩ ⟨Nat.zero_le _, Nat.zero_le _⟩ rfl rfl (Nat.le_of_ble_eq_true rfl) (fun r3 I3 J3 Q3 hp => ?_)
    obtain ⟨hw, eI, eJ, eQ, hWF⟩ := hp
    have eI : I = I3 := Eq.symm eI
    subst eI
    have eJ : J = J3 := Eq.symm eJ
    subst eJ
    have eQ : Q = Q3 := Eq.symm eQ
    subst eQ
    try dsimp only at hw hWF
    refine g_if_eq (tgt := 20) C dX10_sheet_11 (by decide) (fun c4 => ?_) (fun c4 => ?_)
    · have hw := hw.1 c4
      refine g_iconst (v := (-1 : Int32)) C dX10_sheet_20 (by decide) ?_
      exact g_iret C dX10_sheet_21 hr ⟨hw, rfl, hWF⟩
    · have hw := hw.2 c4
      refine g_iload_n C dX10_sheet_14 rfl 3 rfl ?_
      refine g_bipush (v := (24 : Int32)) C dX10_sheet_15 (by decide) ?_
      refine g_icmp_le (tgt := 22) C dX10_sheet_17 (by decide) (fun c5 => ?_) (fun c5 => ?_)
      · have hw := hw.1 c5
        refine g_iload_n C dX10_sheet_22 rfl 3 rfl ?_
        refine g_if_ge (tgt := 29) C dX10_sheet_23 (by decide) (fun c6 => ?_) (fun c6 => ?_)
        · have hw := hw.1 c6
          refine g_aload_n C dX10_sheet_29 rfl 0 rfl ?_
          refine g_getQ C dX10_sheet_30 ft_339 z0 (hWF.q z0 10 rfl) ?_
          have zz7 := hWF.r z0 10 rfl
          refine g_iload_n C dX10_sheet_33 rfl 1 rfl ?_
          have hrzz8 := rft_eR hw.1
          refine g_aaldR C dX10_sheet_34 zz7 hw.1 (hWF.q zz7 _ hrzz8) ?_
          have zz8 := hWF.r zz7 _ hrzz8
          have hw := hw.2
          refine g_iload_n C dX10_sheet_35 rfl 2 rfl ?_
          refine g_iload_n C dX10_sheet_36 rfl 3 rfl ?_
          refine g_callVv (As := [.int x2, .int x3]) C dX10_sheet_37 ft_343 zz8 ft_358 ft_359 (met_X6_renew l hWF zz8 hw) ⟨rfl, rfl, Nat.le_of_ble_eq_true rfl, Nat.le_of_ble_eq_true rfl⟩ ⟨Nat.zero_le _, Nat.zero_le _⟩ rfl rfl (Nat.le_of_ble_eq_true rfl) (fun I9 J9 Q9 hp => ?_)
          obtain ⟨hw, eQ, hWF⟩ := hp
          have eQ : Q = Q9 := Eq.symm eQ
          subst eQ
          try dsimp only at hw hWF
          refine g_iload_n C dX10_sheet_40 rfl 3 rfl ?_
          exact g_iret C dX10_sheet_41 hr ⟨hw, rfl, hWF⟩
        · have hw := hw.2 c6
          refine g_bipush (v := (-14 : Int32)) C dX10_sheet_26 (by decide) ?_
          exact g_iret C dX10_sheet_28 hr ⟨hw, rfl, hWF⟩
      · have hw := hw.2 c5
        refine g_iconst (v := (-1 : Int32)) C dX10_sheet_20 (by decide) ?_
        exact g_iret C dX10_sheet_21 hr ⟨hw, rfl, hWF⟩
def wp_X10_drop (I : KI) (Q : KQ) (h0 : Nat) (x1 : Int32) (post : Int32 → KI → Prop) : Prop := wp_X10_isSheet x1 (fun r1 => ((¬ r1 = 0 → (vp_in x1 4 ∧ wp_X6_isNothing I (rq Q (rq Q h0 10) x1.toNatClampNeg) (fun r5 => ((r5 = 0 → (vp_in x1 4 ∧ wp_X6_lose I (rq Q (rq Q h0 10) x1.toNatClampNeg) (fun r9 I9 => post r9 I9))) ∧ (¬ r5 = 0 → post (-11 : Int32) I))))) ∧ (r1 = 0 → post (-1 : Int32) I)))
set_option maxHeartbeats 4000000 in
set_option maxRecDepth 100000 in
theorem met_X10_drop {Z : Nat → Prop} {A : Nat → Prop} {D : va_G} {D2 : Nat → ClassId} {ad : Nat → Nat} {N : Nat} {T : Nat → Nat × Nat} (l : Launch) {I : KI} {J : KJ} {Q : KQ} {h0 : Nat} {x1 : Int32} {post : Int32 → KI → Prop} (hWF : WF Z N T Q) (z0 : OKr Z N T h0 (10, 0)) (hw : wp_X10_drop I Q h0 x1 post) : Met l yX10_drop (.code yX10_drop cX10_drop 2 (some .int) :: BIG) ({ frames := 1, cells := 0, slots := 0, locals := 20 }) (Pr D D2 A ad N T I J Q [.ref (ad h0), .int x1]) (va_Qi (fun (r : Int32) (u : KS) => post r u.1 ∧ u.2.1 = J ∧ u.2.2 = Q ∧ WF Z N T u.2.2) (Bw D D2 ad N T) A) 0 0 A := by
  refine Met_GG (lv0 := [(0, .ref (ad h0)), (1, .int x1)]) (by decide +kernel) [.ref (ad h0), .int x1] (Nat.le_of_ble_eq_true rfl) rfl ?_
  intro p e s m below meth c C hr
  have C : CX p s m [.ref (ad h0), .int x1].toArray meth c cX10_drop 2 RX10 A D D2 := C
  unfold wp_X10_drop at hw
  refine g_iload_n C dX10_drop_0 rfl 1 rfl ?_
  refine g_callSi (As := [.int x1]) C dX10_drop_1 ft_346 ft_347 (met_X10_isSheet l hWF  hw) ⟨rfl, rfl, Nat.le_of_ble_eq_true rfl, Nat.le_of_ble_eq_true rfl⟩ ⟨Nat.zero_le _, Nat.zero_le _⟩ rfl rfl (Nat.le_of_ble_eq_true rfl) (fun r1 I1 J1 Q1 hp => ?_)
  obtain ⟨hw, eI, eJ, eQ, hWF⟩ := hp
  have eI : I = I1 := Eq.symm eI
  subst eI
  have eJ : J = J1 := Eq.symm eJ
  subst eJ
  have eQ : Q = Q1 := Eq.symm eQ
  subst eQ
  try dsimp only at hw hWF
  refine g_if_ne (tgt := 9) C dX10_drop_4 (by decide) (fun c2 => ?_) (fun c2 => ?_)
  · have hw := hw.1 c2
    refine g_aload_n C dX10_drop_9 rfl 0 rfl ?_
    refine g_getQ C dX10_drop_10 ft_339 z0 (hWF.q z0 10 rfl) ?_
    have zz3 := hWF.r z0 10 rfl
    refine g_iload_n C dX10_drop_13 rfl 1 rfl ?_
    have hrzz4 := rft_eR hw.1
    refine g_aaldR C dX10_drop_14 zz3 hw.1 (hWF.q zz3 _ hrzz4) ?_
    have zz4 := hWF.r zz3 _ hrzz4
    have hw := hw.2
    refine g_callVi (As := []) C dX10_drop_15 ft_343 zz4 ft_341 ft_342 (met_X6_isNothing l hWF zz4 hw) ⟨rfl, rfl, Nat.le_of_ble_eq_true rfl, Nat.le_of_ble_eq_true rfl⟩ ⟨Nat.zero_le _, Nat.zero_le _⟩ rfl rfl (Nat.le_of_ble_eq_true rfl) (fun r5 I5 J5 Q5 hp => ?_)
    obtain ⟨hw, eI, eJ, eQ, hWF⟩ := hp
    have eI : I = I5 := Eq.symm eI
    subst eI
    have eJ : J = J5 := Eq.symm eJ
    subst eJ
    have eQ : Q = Q5 := Eq.symm eQ
    subst eQ
    try dsimp only at hw hWF
    refine g_if_eq (tgt := 24) C dX10_drop_18 (by decide) (fun c6 => ?_) (fun c6 => ?_)
    · have hw := hw.1 c6
      refine g_aload_n C dX10_drop_24 rfl 0 rfl ?_
      refine g_getQ C dX10_drop_25 ft_339 z0 (hWF.q z0 10 rfl) ?_
      have zz7 := hWF.r z0 10 rfl
      refine g_iload_n C dX10_drop_28 rfl 1 rfl ?_
      have hrzz8 := rft_eR hw.1
      refine g_aaldR C dX10_drop_29 zz7 hw.1 (hWF.q zz7 _ hrzz8) ?_
      have zz8 := hWF.r zz7 _ hrzz8
      have hw := hw.2
      refine g_callVi (As := []) C dX10_drop_30 ft_343 zz8 ft_360 ft_361 (met_X6_lose l hWF zz8 hw) ⟨rfl, rfl, Nat.le_of_ble_eq_true rfl, Nat.le_of_ble_eq_true rfl⟩ ⟨Nat.zero_le _, Nat.zero_le _⟩ rfl rfl (Nat.le_of_ble_eq_true rfl) (fun r9 I9 J9 Q9 hp => ?_)
      obtain ⟨hw, eJ, eQ, hWF⟩ := hp
      have eJ : J = J9 := Eq.symm eJ
      subst eJ
      have eQ : Q = Q9 := Eq.symm eQ
      subst eQ
      try dsimp only at hw hWF
      exact g_iret C dX10_drop_33 hr ⟨hw, rfl, rfl, hWF⟩
    · have hw := hw.2 c6
      refine g_bipush (v := (-11 : Int32)) C dX10_drop_21 (by decide) ?_
      exact g_iret C dX10_drop_23 hr ⟨hw, rfl, rfl, hWF⟩
  · have hw := hw.2 c2
    refine g_iconst (v := (-1 : Int32)) C dX10_drop_7 (by decide) ?_
    exact g_iret C dX10_drop_8 hr ⟨hw, rfl, rfl, hWF⟩
def wp_X10_item (I : KI) (J : KJ) (Q : KQ) (h0 : Nat) (x1 : Int32) (x2 : Int32) (x3 : Int32) (x4 : Int64) (post : Int32 → KJ → Prop) : Prop := wp_X10_refusal I Q h0 x1 x2 (fun r1 => ((r1 = 0 → (vp_in x1 4 ∧ wp_X6_covers I (rq Q (rq Q h0 10) x1.toNatClampNeg) x3 (1 : Int32) (fun r5 => ((¬ r5 = 0 → (vp_in x1 4 ∧ wp_X6_set I J Q (rq Q (rq Q h0 10) x1.toNatClampNeg) x3 x4 (fun J9 => post (1 : Int32) J9))) ∧ (r5 = 0 → post (-13 : Int32) J))))) ∧ (¬ r1 = 0 → post r1 J)))
set_option maxHeartbeats 4000000 in
set_option maxRecDepth 100000 in
theorem met_X10_item {Z : Nat → Prop} {A : Nat → Prop} {D : va_G} {D2 : Nat → ClassId} {ad : Nat → Nat} {N : Nat} {T : Nat → Nat × Nat} (l : Launch) {I : KI} {J : KJ} {Q : KQ} {h0 : Nat} {x1 : Int32} {x2 : Int32} {x3 : Int32} {x4 : Int64} {post : Int32 → KJ → Prop} (hWF : WF Z N T Q) (z0 : OKr Z N T h0 (10, 0)) (hw : wp_X10_item I J Q h0 x1 x2 x3 x4 post) : Met l yX10_item (.code yX10_item cX10_item 7 (some .int) :: BIG) ({ frames := 2, cells := 0, slots := 0, locals := 42 }) (Pr D D2 A ad N T I J Q [.ref (ad h0), .int x1, .int x2, .int x3, .long x4]) (va_Qi (fun (r : Int32) (u : KS) => post r u.2.1 ∧ u.1 = I ∧ u.2.2 = Q ∧ WF Z N T u.2.2) (Bw D D2 ad N T) A) 0 0 A := by
  refine Met_GG (lv0 := [(0, .ref (ad h0)), (1, .int x1), (2, .int x2), (3, .int x3), (4, .long x4)]) (by decide +kernel) [.ref (ad h0), .int x1, .int x2, .int x3, .long x4] (Nat.le_of_ble_eq_true rfl) rfl ?_
  intro p e s m below meth c C hr
  have C : CX p s m [.ref (ad h0), .int x1, .int x2, .int x3, .long x4].toArray meth c cX10_item 7 RX10 A D D2 := C
  unfold wp_X10_item at hw
  refine g_aload_n C dX10_item_0 rfl 0 rfl ?_
  refine g_iload_n C dX10_item_1 rfl 1 rfl ?_
  refine g_iload_n C dX10_item_2 rfl 2 rfl ?_
  refine g_callVi (As := [.int x1, .int x2]) C dX10_item_3 ft_330 z0 ft_354 ft_355 (met_X10_refusal l hWF z0 hw) ⟨rfl, rfl, Nat.le_of_ble_eq_true rfl, Nat.le_of_ble_eq_true rfl⟩ ⟨Nat.zero_le _, Nat.zero_le _⟩ rfl rfl (Nat.le_of_ble_eq_true rfl) (fun r1 I1 J1 Q1 hp => ?_)
  obtain ⟨hw, eI, eJ, eQ, hWF⟩ := hp
  have eI : I = I1 := Eq.symm eI
  subst eI
  have eJ : J = J1 := Eq.symm eJ
  subst eJ
  have eQ : Q = Q1 := Eq.symm eQ
  subst eQ
  try dsimp only at hw hWF
  refine g_istore (lv' := [(6, .int r1), (0, .ref (ad h0)), (1, .int x1), (2, .int x2), (3, .int x3), (4, .long x4)]) C dX10_item_6 (by decide) rfl ?_
  refine g_iload C dX10_item_8 0 rfl ?_
  refine g_if_eq (tgt := 16) C dX10_item_10 (by decide) (fun c2 => ?_) (fun c2 => ?_)
  · have hw := hw.1 c2
    refine g_aload_n C dX10_item_16 rfl 1 rfl ?_
    refine g_getQ C dX10_item_17 ft_339 z0 (hWF.q z0 10 rfl) ?_
    have zz3 := hWF.r z0 10 rfl
    refine g_iload_n C dX10_item_20 rfl 2 rfl ?_
    have hrzz4 := rft_eR hw.1
    refine g_aaldR C dX10_item_21 zz3 hw.1 (hWF.q zz3 _ hrzz4) ?_
    have zz4 := hWF.r zz3 _ hrzz4
    have hw := hw.2
    refine g_iload_n C dX10_item_22 rfl 4 rfl ?_
    refine g_iconst (v := (1 : Int32)) C dX10_item_23 (by decide) ?_
    refine g_callVi (As := [.int x3, .int (1 : Int32)]) C dX10_item_24 ft_343 zz4 ft_352 ft_353 (met_X6_covers l hWF zz4 hw) ⟨rfl, rfl, Nat.le_of_ble_eq_true rfl, Nat.le_of_ble_eq_true rfl⟩ ⟨Nat.zero_le _, Nat.zero_le _⟩ rfl rfl (Nat.le_of_ble_eq_true rfl) (fun r5 I5 J5 Q5 hp => ?_)
    obtain ⟨hw, eI, eJ, eQ, hWF⟩ := hp
    have eI : I = I5 := Eq.symm eI
    subst eI
    have eJ : J = J5 := Eq.symm eJ
    subst eJ
    have eQ : Q = Q5 := Eq.symm eQ
    subst eQ
    try dsimp only at hw hWF
    refine g_if_ne (tgt := 33) C dX10_item_27 (by decide) (fun c6 => ?_) (fun c6 => ?_)
    · have hw := hw.1 c6
      refine g_aload_n C dX10_item_33 rfl 1 rfl ?_
      refine g_getQ C dX10_item_34 ft_339 z0 (hWF.q z0 10 rfl) ?_
      have zz7 := hWF.r z0 10 rfl
      refine g_iload_n C dX10_item_37 rfl 2 rfl ?_
      have hrzz8 := rft_eR hw.1
      refine g_aaldR C dX10_item_38 zz7 hw.1 (hWF.q zz7 _ hrzz8) ?_
      have zz8 := hWF.r zz7 _ hrzz8
      have hw := hw.2
      refine g_iload_n C dX10_item_39 rfl 4 rfl ?_
      refine g_lload C dX10_item_40 5 rfl ?_
      refine g_callVv (As := [.int x3, .long x4]) C dX10_item_42 ft_343 zz8 ft_356 ft_357 (met_X6_set l hWF zz8 hw) ⟨rfl, rfl, Nat.le_of_ble_eq_true rfl, Nat.le_of_ble_eq_true rfl⟩ ⟨Nat.zero_le _, Nat.zero_le _⟩ rfl rfl (Nat.le_of_ble_eq_true rfl) (fun I9 J9 Q9 hp => ?_)
      obtain ⟨hw, eI, eQ, hWF⟩ := hp
      have eI : I = I9 := Eq.symm eI
      subst eI
      have eQ : Q = Q9 := Eq.symm eQ
      subst eQ
      try dsimp only at hw hWF
      refine g_iconst (v := (1 : Int32)) C dX10_item_45 (by decide) ?_
      exact g_iret C dX10_item_46 hr ⟨hw, rfl, rfl, hWF⟩
    · have hw := hw.2 c6
      refine g_bipush (v := (-13 : Int32)) C dX10_item_30 (by decide) ?_
      exact g_iret C dX10_item_32 hr ⟨hw, rfl, rfl, hWF⟩
  · have hw := hw.2 c2
    refine g_iload C dX10_item_13 0 rfl ?_
    exact g_iret C dX10_item_15 hr ⟨hw, rfl, rfl, hWF⟩
def wp_X10_copy (I : KI) (J : KJ) (Q : KQ) (h0 : Nat) (x1 : Int32) (x2 : Int32) (x3 : Int32) (x4 : Int32) (x5 : Int32) (post : Int32 → KJ → Prop) : Prop := wp_X10_isSheet x1 (fun r1 => ((r1 = 0 → post (-1 : Int32) J) ∧ (¬ r1 = 0 → wp_X10_isSheet x3 (fun r3 => ((¬ r3 = 0 → (vp_in x1 4 ∧ (vp_in x3 4 ∧ wp_X6_isNothing I (rq Q (rq Q h0 10) x1.toNatClampNeg) (fun r9 => ((¬ r9 = 0 → post (-11 : Int32) J) ∧ (r9 = 0 → wp_X6_isNothing I (rq Q (rq Q h0 10) x3.toNatClampNeg) (fun r11 => ((r11 = 0 → (((I (rq Q (rq Q h0 10) x1.toNatClampNeg) 1) = (I (rq Q (rq Q h0 10) x3.toNatClampNeg) 1) → wp_X6_covers I (rq Q (rq Q h0 10) x1.toNatClampNeg) x2 x5 (fun r14 => ((r14 = 0 → post (-13 : Int32) J) ∧ (¬ r14 = 0 → wp_X6_covers I (rq Q (rq Q h0 10) x3.toNatClampNeg) x4 x5 (fun r16 => ((¬ r16 = 0 → (¬ x2 < 0 ∧ ¬ x4 < 0 ∧ ¬ x5 < 0 ∧ x2.toNatClampNeg + x5.toNatClampNeg ≤ 24 ∧ x4.toNatClampNeg + x5.toNatClampNeg ≤ 24 ∧ post x5 (cpj J (rq Q (rq Q (rq Q h0 10) x1.toNatClampNeg) 0) (rq Q (rq Q (rq Q h0 10) x3.toNatClampNeg) 0) x2.toNatClampNeg x4.toNatClampNeg x5.toNatClampNeg))) ∧ (r16 = 0 → post (-13 : Int32) J))))))) ∧ (¬ (I (rq Q (rq Q h0 10) x1.toNatClampNeg) 1) = (I (rq Q (rq Q h0 10) x3.toNatClampNeg) 1) → post (-12 : Int32) J))) ∧ (¬ r11 = 0 → post (-11 : Int32) J))))))))) ∧ (r3 = 0 → post (-1 : Int32) J))))))
set_option maxHeartbeats 4000000 in
set_option maxRecDepth 100000 in
theorem met_X10_copy {Z : Nat → Prop} {A : Nat → Prop} {D : va_G} {D2 : Nat → ClassId} {ad : Nat → Nat} {N : Nat} {T : Nat → Nat × Nat} (l : Launch) {I : KI} {J : KJ} {Q : KQ} {h0 : Nat} {x1 : Int32} {x2 : Int32} {x3 : Int32} {x4 : Int32} {x5 : Int32} {post : Int32 → KJ → Prop} (hWF : WF Z N T Q) (z0 : OKr Z N T h0 (10, 0)) (hw : wp_X10_copy I J Q h0 x1 x2 x3 x4 x5 post) : Met l yX10_copy (.code yX10_copy cX10_copy 8 (some .int) :: BIG) ({ frames := 1, cells := 0, slots := 0, locals := 40 }) (Pr D D2 A ad N T I J Q [.ref (ad h0), .int x1, .int x2, .int x3, .int x4, .int x5]) (va_Qi (fun (r : Int32) (u : KS) => post r u.2.1 ∧ u.1 = I ∧ u.2.2 = Q ∧ WF Z N T u.2.2) (Bw D D2 ad N T) A) 0 0 A := by
  refine Met_GG (lv0 := [(0, .ref (ad h0)), (1, .int x1), (2, .int x2), (3, .int x3), (4, .int x4), (5, .int x5)]) (by decide +kernel) [.ref (ad h0), .int x1, .int x2, .int x3, .int x4, .int x5] (Nat.le_of_ble_eq_true rfl) rfl ?_
  intro p e s m below meth c C hr
  have C : CX p s m [.ref (ad h0), .int x1, .int x2, .int x3, .int x4, .int x5].toArray meth c cX10_copy 8 RX10 A D D2 := C
  unfold wp_X10_copy at hw
  refine g_iload_n C dX10_copy_0 rfl 1 rfl ?_
  refine g_callSi (As := [.int x1]) C dX10_copy_1 ft_346 ft_347 (met_X10_isSheet l hWF  hw) ⟨rfl, rfl, Nat.le_of_ble_eq_true rfl, Nat.le_of_ble_eq_true rfl⟩ ⟨Nat.zero_le _, Nat.zero_le _⟩ rfl rfl (Nat.le_of_ble_eq_true rfl) (fun r1 I1 J1 Q1 hp => ?_)
  obtain ⟨hw, eI, eJ, eQ, hWF⟩ := hp
  have eI : I = I1 := Eq.symm eI
  subst eI
  have eJ : J = J1 := Eq.symm eJ
  subst eJ
  have eQ : Q = Q1 := Eq.symm eQ
  subst eQ
  try dsimp only at hw hWF
  refine g_if_eq (tgt := 14) C dX10_copy_4 (by decide) (fun c2 => ?_) (fun c2 => ?_)
  · have hw := hw.1 c2
    refine g_iconst (v := (-1 : Int32)) C dX10_copy_14 (by decide) ?_
    exact g_iret C dX10_copy_15 hr ⟨hw, rfl, rfl, hWF⟩
  · have hw := hw.2 c2
    refine g_iload_n C dX10_copy_7 rfl 3 rfl ?_
    refine g_callSi (As := [.int x3]) C dX10_copy_8 ft_346 ft_347 (met_X10_isSheet l hWF  hw) ⟨rfl, rfl, Nat.le_of_ble_eq_true rfl, Nat.le_of_ble_eq_true rfl⟩ ⟨Nat.zero_le _, Nat.zero_le _⟩ rfl rfl (Nat.le_of_ble_eq_true rfl) (fun r3 I3 J3 Q3 hp => ?_)
    obtain ⟨hw, eI, eJ, eQ, hWF⟩ := hp
    have eI : I = I3 := Eq.symm eI
    subst eI
    have eJ : J = J3 := Eq.symm eJ
    subst eJ
    have eQ : Q = Q3 := Eq.symm eQ
    subst eQ
    try dsimp only at hw hWF
    refine g_if_ne (tgt := 16) C dX10_copy_11 (by decide) (fun c4 => ?_) (fun c4 => ?_)
    · have hw := hw.1 c4
      refine g_aload_n C dX10_copy_16 rfl 0 rfl ?_
      refine g_getQ C dX10_copy_17 ft_339 z0 (hWF.q z0 10 rfl) ?_
      have zz5 := hWF.r z0 10 rfl
      refine g_iload_n C dX10_copy_20 rfl 1 rfl ?_
      have hrzz6 := rft_eR hw.1
      refine g_aaldR C dX10_copy_21 zz5 hw.1 (hWF.q zz5 _ hrzz6) ?_
      have zz6 := hWF.r zz5 _ hrzz6
      have hw := hw.2
      refine g_astore (lv' := [(6, .ref (ad (rq Q (rq Q h0 10) x1.toNatClampNeg))), (0, .ref (ad h0)), (1, .int x1), (2, .int x2), (3, .int x3), (4, .int x4), (5, .int x5)]) C dX10_copy_22 (by decide) rfl ?_
      refine g_aload_n C dX10_copy_24 rfl 1 rfl ?_
      refine g_getQ C dX10_copy_25 ft_339 z0 (hWF.q z0 10 rfl) ?_
      have zz7 := hWF.r z0 10 rfl
      refine g_iload_n C dX10_copy_28 rfl 4 rfl ?_
      have hrzz8 := rft_eR hw.1
      refine g_aaldR C dX10_copy_29 zz7 hw.1 (hWF.q zz7 _ hrzz8) ?_
      have zz8 := hWF.r zz7 _ hrzz8
      have hw := hw.2
      refine g_astore (lv' := [(7, .ref (ad (rq Q (rq Q h0 10) x3.toNatClampNeg))), (6, .ref (ad (rq Q (rq Q h0 10) x1.toNatClampNeg))), (0, .ref (ad h0)), (1, .int x1), (2, .int x2), (3, .int x3), (4, .int x4), (5, .int x5)]) C dX10_copy_30 (by decide) rfl ?_
      refine g_aload C dX10_copy_32 1 rfl ?_
      refine g_callVi (As := []) C dX10_copy_34 ft_343 zz6 ft_341 ft_342 (met_X6_isNothing l hWF zz6 hw) ⟨rfl, rfl, Nat.le_of_ble_eq_true rfl, Nat.le_of_ble_eq_true rfl⟩ ⟨Nat.zero_le _, Nat.zero_le _⟩ rfl rfl (Nat.le_of_ble_eq_true rfl) (fun r9 I9 J9 Q9 hp => ?_)
      obtain ⟨hw, eI, eJ, eQ, hWF⟩ := hp
      have eI : I = I9 := Eq.symm eI
      subst eI
      have eJ : J = J9 := Eq.symm eJ
      subst eJ
      have eQ : Q = Q9 := Eq.symm eQ
      subst eQ
      try dsimp only at hw hWF
      refine g_if_ne (tgt := 48) C dX10_copy_37 (by decide) (fun c10 => ?_) (fun c10 => ?_)
      · have hw := hw.1 c10
        refine g_bipush (v := (-11 : Int32)) C dX10_copy_48 (by decide) ?_
        exact g_iret C dX10_copy_50 hr ⟨hw, rfl, rfl, hWF⟩
      · have hw := hw.2 c10
        refine g_aload C dX10_copy_40 0 rfl ?_
        refine g_callVi (As := []) C dX10_copy_42 ft_343 zz8 ft_341 ft_342 (met_X6_isNothing l hWF zz8 hw) ⟨rfl, rfl, Nat.le_of_ble_eq_true rfl, Nat.le_of_ble_eq_true rfl⟩ ⟨Nat.zero_le _, Nat.zero_le _⟩ rfl rfl (Nat.le_of_ble_eq_true rfl) (fun r11 I11 J11 Q11 hp => ?_)
        obtain ⟨hw, eI, eJ, eQ, hWF⟩ := hp
        have eI : I = I11 := Eq.symm eI
        subst eI
        have eJ : J = J11 := Eq.symm eJ
        subst eJ
        have eQ : Q = Q11 := Eq.symm eQ
        subst eQ
        try dsimp only at hw hWF
        refine g_if_eq (tgt := 51) C dX10_copy_45 (by decide) (fun c12 => ?_) (fun c12 => ?_)
        · have hw := hw.1 c12
          refine g_aload C dX10_copy_51 1 rfl ?_
          refine g_getI C dX10_copy_53 ft_340 zz6 ?_
          refine g_aload C dX10_copy_56 0 rfl ?_
          refine g_getI C dX10_copy_58 ft_340 zz8 ?_
          refine g_icmp_eq (tgt := 67) C dX10_copy_61 (by decide) (fun c13 => ?_) (fun c13 => ?_)
          · have hw := hw.1 c13
            refine g_aload C dX10_copy_67 1 rfl ?_
            refine g_iload_n C dX10_copy_69 rfl 4 rfl ?_
            refine g_iload C dX10_copy_70 7 rfl ?_
            refine g_callVi (As := [.int x2, .int x5]) C dX10_copy_72 ft_343 zz6 ft_352 ft_353 (met_X6_covers l hWF zz6 hw) ⟨rfl, rfl, Nat.le_of_ble_eq_true rfl, Nat.le_of_ble_eq_true rfl⟩ ⟨Nat.zero_le _, Nat.zero_le _⟩ rfl rfl (Nat.le_of_ble_eq_true rfl) (fun r14 I14 J14 Q14 hp => ?_)
            obtain ⟨hw, eI, eJ, eQ, hWF⟩ := hp
            have eI : I = I14 := Eq.symm eI
            subst eI
            have eJ : J = J14 := Eq.symm eJ
            subst eJ
            have eQ : Q = Q14 := Eq.symm eQ
            subst eQ
            try dsimp only at hw hWF
            refine g_if_eq (tgt := 90) C dX10_copy_75 (by decide) (fun c15 => ?_) (fun c15 => ?_)
            · have hw := hw.1 c15
              refine g_bipush (v := (-13 : Int32)) C dX10_copy_90 (by decide) ?_
              exact g_iret C dX10_copy_92 hr ⟨hw, rfl, rfl, hWF⟩
            · have hw := hw.2 c15
              refine g_aload C dX10_copy_78 0 rfl ?_
              refine g_iload C dX10_copy_80 6 rfl ?_
              refine g_iload C dX10_copy_82 7 rfl ?_
              refine g_callVi (As := [.int x4, .int x5]) C dX10_copy_84 ft_343 zz8 ft_352 ft_353 (met_X6_covers l hWF zz8 hw) ⟨rfl, rfl, Nat.le_of_ble_eq_true rfl, Nat.le_of_ble_eq_true rfl⟩ ⟨Nat.zero_le _, Nat.zero_le _⟩ rfl rfl (Nat.le_of_ble_eq_true rfl) (fun r16 I16 J16 Q16 hp => ?_)
              obtain ⟨hw, eI, eJ, eQ, hWF⟩ := hp
              have eI : I = I16 := Eq.symm eI
              subst eI
              have eJ : J = J16 := Eq.symm eJ
              subst eJ
              have eQ : Q = Q16 := Eq.symm eQ
              subst eQ
              try dsimp only at hw hWF
              refine g_if_ne (tgt := 93) C dX10_copy_87 (by decide) (fun c17 => ?_) (fun c17 => ?_)
              · have hw := hw.1 c17
                refine g_aload C dX10_copy_93 1 rfl ?_
                refine g_getQ C dX10_copy_95 ft_348 zz6 (hWF.q zz6 0 rfl) ?_
                have zz18 := hWF.r zz6 0 rfl
                refine g_iload_n C dX10_copy_98 rfl 4 rfl ?_
                refine g_aload C dX10_copy_99 0 rfl ?_
                refine g_getQ C dX10_copy_101 ft_348 zz8 (hWF.q zz8 0 rfl) ?_
                have zz19 := hWF.r zz8 0 rfl
                refine g_iload C dX10_copy_104 6 rfl ?_
                refine g_iload C dX10_copy_106 7 rfl ?_
                refine g_copyJ C dX10_copy_108 ft_362 zz18 zz19 hw.1 hw.2.1 hw.2.2.1 hw.2.2.2.1 hw.2.2.2.2.1 (by decide) (by decide +kernel) ?_
                have hw := hw.2.2.2.2.2
                refine g_iload C dX10_copy_111 7 rfl ?_
                exact g_iret C dX10_copy_113 hr ⟨hw, rfl, rfl, hWF⟩
              · have hw := hw.2 c17
                refine g_bipush (v := (-13 : Int32)) C dX10_copy_90 (by decide) ?_
                exact g_iret C dX10_copy_92 hr ⟨hw, rfl, rfl, hWF⟩
          · have hw := hw.2 c13
            refine g_bipush (v := (-12 : Int32)) C dX10_copy_64 (by decide) ?_
            exact g_iret C dX10_copy_66 hr ⟨hw, rfl, rfl, hWF⟩
        · have hw := hw.2 c12
          refine g_bipush (v := (-11 : Int32)) C dX10_copy_48 (by decide) ?_
          exact g_iret C dX10_copy_50 hr ⟨hw, rfl, rfl, hWF⟩
    · have hw := hw.2 c4
      refine g_iconst (v := (-1 : Int32)) C dX10_copy_14 (by decide) ?_
      exact g_iret C dX10_copy_15 hr ⟨hw, rfl, rfl, hWF⟩
def wp_X11_in  (x0 : Int64) (x2 : Int64) (x4 : Int64) (post : Int32 → Prop) : Prop := (((lg_cmp x0 x2) < 0 → post (0 : Int32)) ∧ (¬ (lg_cmp x0 x2) < 0 → ((0 < (lg_cmp x0 x4) → post (0 : Int32)) ∧ (¬ 0 < (lg_cmp x0 x4) → post (1 : Int32)))))
set_option maxHeartbeats 4000000 in
set_option maxRecDepth 100000 in
theorem met_X11_in {Z : Nat → Prop} {A : Nat → Prop} {D : va_G} {D2 : Nat → ClassId} {ad : Nat → Nat} {N : Nat} {T : Nat → Nat × Nat} (l : Launch) {I : KI} {J : KJ} {Q : KQ} {x0 : Int64} {x2 : Int64} {x4 : Int64} {post : Int32 → Prop} (hWF : WF Z N T Q)  (hw : wp_X11_in x0 x2 x4 post) : Met l yX11_in (.code yX11_in cX11_in 6 (some .boolean) :: BIG) ({ frames := 0, cells := 0, slots := 0, locals := 0 }) (Pr D D2 A ad N T I J Q [.long x0, .long x2, .long x4]) (va_Qi (fun (r : Int32) (u : KS) => post r ∧ u.1 = I ∧ u.2.1 = J ∧ u.2.2 = Q ∧ WF Z N T u.2.2) (Bw D D2 ad N T) A) 0 0 A := by
  refine Met_GG (lv0 := [(0, .long x0), (2, .long x2), (4, .long x4)]) (by decide +kernel) [.long x0, .long x2, .long x4] (Nat.le_of_ble_eq_true rfl) rfl ?_
  intro p e s m below meth c C hr
  have C : CX p s m [.long x0, .long x2, .long x4].toArray meth c cX11_in 6 RX11 A D D2 := C
  unfold wp_X11_in at hw
  refine g_lload_n C dX11_in_0 rfl 0 rfl ?_
  refine g_lload_n C dX11_in_1 rfl 1 rfl ?_
  refine g_lcmp C dX11_in_2 ?_
  refine g_if_lt (tgt := 17) C dX11_in_3 (by decide) (fun c1 => ?_) (fun c1 => ?_)
  · have hw := hw.1 c1
    refine g_iconst (v := (0 : Int32)) C dX11_in_17 (by decide) ?_
    exact g_zret C dX11_in_18 hr rfl ⟨hw, rfl, rfl, rfl, hWF⟩
  · have hw := hw.2 c1
    refine g_lload_n C dX11_in_6 rfl 0 rfl ?_
    refine g_lload C dX11_in_7 2 rfl ?_
    refine g_lcmp C dX11_in_9 ?_
    refine g_if_gt (tgt := 17) C dX11_in_10 (by decide) (fun c2 => ?_) (fun c2 => ?_)
    · have hw := hw.1 c2
      refine g_iconst (v := (0 : Int32)) C dX11_in_17 (by decide) ?_
      exact g_zret C dX11_in_18 hr rfl ⟨hw, rfl, rfl, rfl, hWF⟩
    · have hw := hw.2 c2
      refine g_iconst (v := (1 : Int32)) C dX11_in_13 (by decide) ?_
      refine g_goto C dX11_in_14 (tgt := 18) (by decide) ?_
      exact g_zret C dX11_in_18 hr rfl ⟨hw, rfl, rfl, rfl, hWF⟩
def wp_X11_has  (x0 : Int32) (x1 : Int32) (post : Int32 → Prop) : Prop := ((¬ ((x0 >>> (x1 &&& 31)) &&& (1 : Int32)) = (1 : Int32) → post (0 : Int32)) ∧ (((x0 >>> (x1 &&& 31)) &&& (1 : Int32)) = (1 : Int32) → post (1 : Int32)))
set_option maxHeartbeats 4000000 in
set_option maxRecDepth 100000 in
theorem met_X11_has {Z : Nat → Prop} {A : Nat → Prop} {D : va_G} {D2 : Nat → ClassId} {ad : Nat → Nat} {N : Nat} {T : Nat → Nat × Nat} (l : Launch) {I : KI} {J : KJ} {Q : KQ} {x0 : Int32} {x1 : Int32} {post : Int32 → Prop} (hWF : WF Z N T Q)  (hw : wp_X11_has x0 x1 post) : Met l yX11_has (.code yX11_has cX11_has 2 (some .boolean) :: BIG) ({ frames := 0, cells := 0, slots := 0, locals := 0 }) (Pr D D2 A ad N T I J Q [.int x0, .int x1]) (va_Qi (fun (r : Int32) (u : KS) => post r ∧ u.1 = I ∧ u.2.1 = J ∧ u.2.2 = Q ∧ WF Z N T u.2.2) (Bw D D2 ad N T) A) 0 0 A := by
  refine Met_GG (lv0 := [(0, .int x0), (1, .int x1)]) (by decide +kernel) [.int x0, .int x1] (Nat.le_of_ble_eq_true rfl) rfl ?_
  intro p e s m below meth c C hr
  have C : CX p s m [.int x0, .int x1].toArray meth c cX11_has 2 RX11 A D D2 := C
  unfold wp_X11_has at hw
  refine g_iload_n C dX11_has_0 rfl 0 rfl ?_
  refine g_iload_n C dX11_has_1 rfl 1 rfl ?_
  refine g_ishr C dX11_has_2 ?_
  refine g_iconst (v := (1 : Int32)) C dX11_has_3 (by decide) ?_
  refine g_iand C dX11_has_4 ?_
  refine g_iconst (v := (1 : Int32)) C dX11_has_5 (by decide) ?_
  refine g_icmp_ne (tgt := 13) C dX11_has_6 (by decide) (fun c1 => ?_) (fun c1 => ?_)
  · have hw := hw.1 c1
    refine g_iconst (v := (0 : Int32)) C dX11_has_13 (by decide) ?_
    exact g_zret C dX11_has_14 hr rfl ⟨hw, rfl, rfl, rfl, hWF⟩
  · have hw := hw.2 c1
    refine g_iconst (v := (1 : Int32)) C dX11_has_9 (by decide) ?_
    refine g_goto C dX11_has_10 (tgt := 14) (by decide) ?_
    exact g_zret C dX11_has_14 hr rfl ⟨hw, rfl, rfl, rfl, hWF⟩
def wp_X11_ones_L4 (f0_1 : Int32) (post : Int32 → Prop) : Nat → Int32 → Int32 → Prop
  | 0, _, _ => False
  | n4 + 1, x1_1, x2_1 => (((32 : Int32) ≤ x2_1 → post x1_1) ∧ (¬ (32 : Int32) ≤ x2_1 → wp_X11_ones_L4 f0_1 post n4 (x1_1 + ((f0_1 >>> (x2_1 &&& 31)) &&& (1 : Int32))) (x2_1 + (1 : Int32))))
def wp_X11_ones  (x0 : Int32) (post : Int32 → Prop) : Prop := (∃ q4, wp_X11_ones_L4 x0 post q4 (0 : Int32) (0 : Int32))
set_option maxHeartbeats 4000000 in
set_option maxRecDepth 100000 in
theorem met_X11_ones {Z : Nat → Prop} {A : Nat → Prop} {D : va_G} {D2 : Nat → ClassId} {ad : Nat → Nat} {N : Nat} {T : Nat → Nat × Nat} (l : Launch) {I : KI} {J : KJ} {Q : KQ} {x0 : Int32} {post : Int32 → Prop} (hWF : WF Z N T Q)  (hw : wp_X11_ones x0 post) : Met l yX11_ones (.code yX11_ones cX11_ones 3 (some .int) :: BIG) ({ frames := 0, cells := 0, slots := 0, locals := 0 }) (Pr D D2 A ad N T I J Q [.int x0]) (va_Qi (fun (r : Int32) (u : KS) => post r ∧ u.1 = I ∧ u.2.1 = J ∧ u.2.2 = Q ∧ WF Z N T u.2.2) (Bw D D2 ad N T) A) 0 0 A := by
  refine Met_GG (lv0 := [(0, .int x0)]) (by decide +kernel) [.int x0] (Nat.le_of_ble_eq_true rfl) rfl ?_
  intro p e s m below meth c C hr
  have C : CX p s m [.int x0].toArray meth c cX11_ones 3 RX11 A D D2 := C
  unfold wp_X11_ones at hw
  refine g_iconst (v := (0 : Int32)) C dX11_ones_0 (by decide) ?_
  refine g_istore_n (lv' := [(1, .int (0 : Int32)), (0, .int x0)]) C dX11_ones_1 rfl (by decide) rfl ?_
  refine g_iconst (v := (0 : Int32)) C dX11_ones_2 (by decide) ?_
  refine g_istore_n (lv' := [(2, .int (0 : Int32)), (1, .int (0 : Int32)), (0, .int x0)]) C dX11_ones_3 rfl (by decide) rfl ?_
  have L4_u3 : ∀ (n4 : Nat) (x1_1 : Int32) (x2_1 : Int32), wp_X11_ones_L4 x0 post n4 x1_1 x2_1 → WF Z N T Q → GG p l e ({ frames := 0, cells := 0, slots := 0, locals := 0 }) s m [.int x0].toArray below meth c 3 A D D2 0 0 (MQ below (va_Qi (fun (r : Int32) (u : KS) => post r ∧ u.1 = I ∧ u.2.1 = J ∧ u.2.2 = Q ∧ WF Z N T u.2.2) (Bw D D2 ad N T) A) [.int x0].toArray s 0 0 A) ad N T I J Q 4 [(0, .int x0), (1, .int x1_1), (2, .int x2_1)] [] := by
    intro n4
    induction n4 with
    | zero => intro x1_1 x2_1 hw; exact hw.elim
    | succ n4 ih_u3 =>
      intro x1_1 x2_1 hw hWF
      unfold wp_X11_ones_L4 at hw
      refine g_iload_n C dX11_ones_4 rfl 2 rfl ?_
      refine g_bipush (v := (32 : Int32)) C dX11_ones_5 (by decide) ?_
      refine g_icmp_ge (tgt := 24) C dX11_ones_7 (by decide) (fun c5 => ?_) (fun c5 => ?_)
      · have hw := hw.1 c5
        refine g_iload_n C dX11_ones_24 rfl 1 rfl ?_
        exact g_iret C dX11_ones_25 hr ⟨hw, rfl, rfl, rfl, hWF⟩
      · have hw := hw.2 c5
        refine g_iload_n C dX11_ones_10 rfl 1 rfl ?_
        refine g_iload_n C dX11_ones_11 rfl 0 rfl ?_
        refine g_iload_n C dX11_ones_12 rfl 2 rfl ?_
        refine g_ishr C dX11_ones_13 ?_
        refine g_iconst (v := (1 : Int32)) C dX11_ones_14 (by decide) ?_
        refine g_iand C dX11_ones_15 ?_
        refine g_iadd C dX11_ones_16 ?_
        refine g_istore_n (lv' := [(1, .int (x1_1 + ((x0 >>> (x2_1 &&& 31)) &&& (1 : Int32)))), (0, .int x0), (2, .int x2_1)]) C dX11_ones_17 rfl (by decide) rfl ?_
        refine g_iinc (v := (x2_1 + (1 : Int32))) (lv' := [(2, .int (x2_1 + (1 : Int32))), (1, .int (x1_1 + ((x0 >>> (x2_1 &&& 31)) &&& (1 : Int32)))), (0, .int x0)]) C dX11_ones_18 (q := 2) rfl rfl (by decide) rfl ?_
        refine g_goto C dX11_ones_21 (tgt := 4) (by decide) ?_
        refine g_sub [2, 1, 0] rfl ?_
        exact ih_u3 (x1_1 + ((x0 >>> (x2_1 &&& 31)) &&& (1 : Int32))) (x2_1 + (1 : Int32)) hw hWF
  obtain ⟨n_u3, hw⟩ := hw
  refine g_sub [2, 1, 0] rfl ?_
  exact L4_u3 n_u3 (0 : Int32) (0 : Int32) hw hWF
def wp_X11_linkOf  (x0 : Int32) (x1 : Int32) (post : Int32 → Prop) : Prop := ((x1 ≤ x0 → post (((x0 * (x0 - (1 : Int32))) / (2 : Int32)) + x1)) ∧ (¬ x1 ≤ x0 → post (((x1 * (x1 - (1 : Int32))) / (2 : Int32)) + x0)))
set_option maxHeartbeats 4000000 in
set_option maxRecDepth 100000 in
theorem met_X11_linkOf {Z : Nat → Prop} {A : Nat → Prop} {D : va_G} {D2 : Nat → ClassId} {ad : Nat → Nat} {N : Nat} {T : Nat → Nat × Nat} (l : Launch) {I : KI} {J : KJ} {Q : KQ} {x0 : Int32} {x1 : Int32} {post : Int32 → Prop} (hWF : WF Z N T Q)  (hw : wp_X11_linkOf x0 x1 post) : Met l yX11_linkOf (.code yX11_linkOf cX11_linkOf 2 (some .int) :: BIG) ({ frames := 0, cells := 0, slots := 0, locals := 0 }) (Pr D D2 A ad N T I J Q [.int x0, .int x1]) (va_Qi (fun (r : Int32) (u : KS) => post r ∧ u.1 = I ∧ u.2.1 = J ∧ u.2.2 = Q ∧ WF Z N T u.2.2) (Bw D D2 ad N T) A) 0 0 A := by
  refine Met_GG (lv0 := [(0, .int x0), (1, .int x1)]) (by decide +kernel) [.int x0, .int x1] (Nat.le_of_ble_eq_true rfl) rfl ?_
  intro p e s m below meth c C hr
  have C : CX p s m [.int x0, .int x1].toArray meth c cX11_linkOf 2 RX11 A D D2 := C
  unfold wp_X11_linkOf at hw
  refine g_iload_n C dX11_linkOf_0 rfl 0 rfl ?_
  refine g_iload_n C dX11_linkOf_1 rfl 1 rfl ?_
  refine g_icmp_ge (tgt := 17) C dX11_linkOf_2 (by decide) (fun c1 => ?_) (fun c1 => ?_)
  · have hw := hw.1 c1
    refine g_iload_n C dX11_linkOf_17 rfl 0 rfl ?_
    refine g_iload_n C dX11_linkOf_18 rfl 0 rfl ?_
    refine g_iconst (v := (1 : Int32)) C dX11_linkOf_19 (by decide) ?_
    refine g_isub C dX11_linkOf_20 ?_
    refine g_imul C dX11_linkOf_21 ?_
    refine g_iconst (v := (2 : Int32)) C dX11_linkOf_22 (by decide) ?_
    refine g_idiv C dX11_linkOf_23 (by decide) ?_
    refine g_iload_n C dX11_linkOf_24 rfl 1 rfl ?_
    refine g_iadd C dX11_linkOf_25 ?_
    exact g_iret C dX11_linkOf_26 hr ⟨hw, rfl, rfl, rfl, hWF⟩
  · have hw := hw.2 c1
    refine g_iload_n C dX11_linkOf_5 rfl 1 rfl ?_
    refine g_iload_n C dX11_linkOf_6 rfl 1 rfl ?_
    refine g_iconst (v := (1 : Int32)) C dX11_linkOf_7 (by decide) ?_
    refine g_isub C dX11_linkOf_8 ?_
    refine g_imul C dX11_linkOf_9 ?_
    refine g_iconst (v := (2 : Int32)) C dX11_linkOf_10 (by decide) ?_
    refine g_idiv C dX11_linkOf_11 (by decide) ?_
    refine g_iload_n C dX11_linkOf_12 rfl 0 rfl ?_
    refine g_iadd C dX11_linkOf_13 ?_
    refine g_goto C dX11_linkOf_14 (tgt := 26) (by decide) ?_
    exact g_iret C dX11_linkOf_26 hr ⟨hw, rfl, rfl, rfl, hWF⟩
def wp_X11_laysPath_L18 (Qf_3 : KQ) (f0_3 : Nat) (post : KI → Prop) : Nat → KI → Int32 → Prop
  | 0, _, _ => False
  | n18 + 1, I_3, x1_3 => (((I_3 (rq Qf_3 f0_3 0) (0 : Int32).toNatClampNeg) ≤ x1_3 → post I_3) ∧ (¬ (I_3 (rq Qf_3 f0_3 0) (0 : Int32).toNatClampNeg) ≤ x1_3 → wp_X11_linkOf (x1_3 - (1 : Int32)) x1_3 (fun r7 => wp_X11_laysPath_L18 Qf_3 f0_3 post n18 (sti I_3 (rq Qf_3 f0_3 0) (7 : Int32).toNatClampNeg ((I_3 (rq Qf_3 f0_3 0) (7 : Int32).toNatClampNeg) ||| ((1 : Int32) <<< (r7 &&& 31)))) (x1_3 + (1 : Int32)))))
def wp_X11_laysPath (I : KI) (Q : KQ) (h0 : Nat) (post : KI → Prop) : Prop := (∃ q18, wp_X11_laysPath_L18 Q h0 post q18 (sti (sti I (rq Q h0 0) (6 : Int32).toNatClampNeg (1 : Int32)) (rq Q h0 0) (7 : Int32).toNatClampNeg (0 : Int32)) (1 : Int32))
set_option maxHeartbeats 4000000 in
set_option maxRecDepth 100000 in
theorem met_X11_laysPath {Z : Nat → Prop} {A : Nat → Prop} {D : va_G} {D2 : Nat → ClassId} {ad : Nat → Nat} {N : Nat} {T : Nat → Nat × Nat} (l : Launch) {I : KI} {J : KJ} {Q : KQ} {h0 : Nat} {post : KI → Prop} (hWF : WF Z N T Q) (z0 : OKr Z N T h0 (11, 0)) (hw : wp_X11_laysPath I Q h0 post) : Met l yX11_laysPath (.code yX11_laysPath cX11_laysPath 2 none :: BIG) ({ frames := 1, cells := 0, slots := 0, locals := 21 }) (Pr D D2 A ad N T I J Q [.ref (ad h0)]) (va_Qv (fun (u : KS) => post u.1 ∧ u.2.1 = J ∧ u.2.2 = Q ∧ WF Z N T u.2.2) (Bw D D2 ad N T) A) 0 0 A := by
  refine Met_GG (lv0 := [(0, .ref (ad h0))]) (by decide +kernel) [.ref (ad h0)] (Nat.le_of_ble_eq_true rfl) rfl ?_
  intro p e s m below meth c C hr
  have C : CX p s m [.ref (ad h0)].toArray meth c cX11_laysPath 2 RX11 A D D2 := C
  unfold wp_X11_laysPath at hw
  refine g_aload_n C dX11_laysPath_0 rfl 0 rfl ?_
  refine g_getQ C dX11_laysPath_1 ft_363 z0 (hWF.q z0 0 rfl) ?_
  have zz1 := hWF.r z0 0 rfl
  refine g_bipush (v := (6 : Int32)) C dX11_laysPath_4 (by decide) ?_
  refine g_iconst (v := (1 : Int32)) C dX11_laysPath_6 (by decide) ?_
  refine g_iast C dX11_laysPath_7 zz1 (vp_lit (by decide +kernel)) ?_
  refine g_aload_n C dX11_laysPath_8 rfl 0 rfl ?_
  refine g_getQ C dX11_laysPath_9 ft_363 z0 (hWF.q z0 0 rfl) ?_
  have zz2 := hWF.r z0 0 rfl
  refine g_bipush (v := (7 : Int32)) C dX11_laysPath_12 (by decide) ?_
  refine g_iconst (v := (0 : Int32)) C dX11_laysPath_14 (by decide) ?_
  refine g_iast C dX11_laysPath_15 zz2 (vp_lit (by decide +kernel)) ?_
  refine g_iconst (v := (1 : Int32)) C dX11_laysPath_16 (by decide) ?_
  refine g_istore_n (lv' := [(1, .int (1 : Int32)), (0, .ref (ad h0))]) C dX11_laysPath_17 rfl (by decide) rfl ?_
  have L18_u8 : ∀ (n18 : Nat) (I_3 : KI) (x1_3 : Int32), wp_X11_laysPath_L18 Q h0 post n18 I_3 x1_3 → WF Z N T Q → GG p l e ({ frames := 1, cells := 0, slots := 0, locals := 21 }) s m [.ref (ad h0)].toArray below meth c 2 A D D2 0 0 (MQ below (va_Qv (fun (u : KS) => post u.1 ∧ u.2.1 = J ∧ u.2.2 = Q ∧ WF Z N T u.2.2) (Bw D D2 ad N T) A) [.ref (ad h0)].toArray s 0 0 A) ad N T I_3 J Q 18 [(0, .ref (ad h0)), (1, .int x1_3)] [] := by
    intro n18
    induction n18 with
    | zero => intro I_3 x1_3 hw; exact hw.elim
    | succ n18 ih_u8 =>
      intro I_3 x1_3 hw hWF
      unfold wp_X11_laysPath_L18 at hw
      refine g_iload_n C dX11_laysPath_18 rfl 1 rfl ?_
      refine g_aload_n C dX11_laysPath_19 rfl 0 rfl ?_
      refine g_getQ C dX11_laysPath_20 ft_363 z0 (hWF.q z0 0 rfl) ?_
      have zz10 := hWF.r z0 0 rfl
      refine g_iconst (v := (0 : Int32)) C dX11_laysPath_23 (by decide) ?_
      refine g_iald C dX11_laysPath_24 zz10 (vp_lit (by decide +kernel)) ?_
      refine g_icmp_ge (tgt := 53) C dX11_laysPath_25 (by decide) (fun c11 => ?_) (fun c11 => ?_)
      · have hw := hw.1 c11
        exact g_vret C dX11_laysPath_53 hr ⟨hw, rfl, rfl, hWF⟩
      · have hw := hw.2 c11
        refine g_aload_n C dX11_laysPath_28 rfl 0 rfl ?_
        refine g_getQ C dX11_laysPath_29 ft_363 z0 (hWF.q z0 0 rfl) ?_
        have zz12 := hWF.r z0 0 rfl
        refine g_bipush (v := (7 : Int32)) C dX11_laysPath_32 (by decide) ?_
        refine g_dup2 C dX11_laysPath_34 rfl rfl ?_
        refine g_iald C dX11_laysPath_35 zz12 (vp_lit (by decide +kernel)) ?_
        refine g_iconst (v := (1 : Int32)) C dX11_laysPath_36 (by decide) ?_
        refine g_iload_n C dX11_laysPath_37 rfl 1 rfl ?_
        refine g_iconst (v := (1 : Int32)) C dX11_laysPath_38 (by decide) ?_
        refine g_isub C dX11_laysPath_39 ?_
        refine g_iload_n C dX11_laysPath_40 rfl 1 rfl ?_
        refine g_callSi (As := [.int (x1_3 - (1 : Int32)), .int x1_3]) C dX11_laysPath_41 ft_365 ft_366 (met_X11_linkOf l hWF  hw) ⟨rfl, rfl, Nat.le_of_ble_eq_true rfl, Nat.le_of_ble_eq_true rfl⟩ ⟨Nat.zero_le _, Nat.zero_le _⟩ rfl rfl (Nat.le_of_ble_eq_true rfl) (fun r13 I13 J13 Q13 hp => ?_)
        obtain ⟨hw, eI, eJ, eQ, hWF⟩ := hp
        have eI : I_3 = I13 := Eq.symm eI
        subst eI
        have eJ : J = J13 := Eq.symm eJ
        subst eJ
        have eQ : Q = Q13 := Eq.symm eQ
        subst eQ
        try dsimp only at hw hWF
        refine g_ishl C dX11_laysPath_44 ?_
        refine g_ior C dX11_laysPath_45 ?_
        refine g_iast C dX11_laysPath_46 zz12 (vp_lit (by decide +kernel)) ?_
        refine g_iinc (v := (x1_3 + (1 : Int32))) (lv' := [(1, .int (x1_3 + (1 : Int32))), (0, .ref (ad h0))]) C dX11_laysPath_47 (q := 1) rfl rfl (by decide) rfl ?_
        refine g_goto C dX11_laysPath_50 (tgt := 18) (by decide) ?_
        refine g_sub [1, 0] rfl ?_
        exact ih_u8 (sti I_3 (rq Q h0 0) (7 : Int32).toNatClampNeg ((I_3 (rq Q h0 0) (7 : Int32).toNatClampNeg) ||| ((1 : Int32) <<< (r13 &&& 31)))) (x1_3 + (1 : Int32)) hw hWF
  obtain ⟨n_u8, hw⟩ := hw
  refine g_sub [1, 0] rfl ?_
  exact L18_u8 n_u8 (sti (sti I (rq Q h0 0) (6 : Int32).toNatClampNeg (1 : Int32)) (rq Q h0 0) (7 : Int32).toNatClampNeg (0 : Int32)) (1 : Int32) hw hWF
def wp_X11_forgets_L3 (Qf_1 : KQ) (f0_1 : Nat) (k22 : KI → Prop) : Nat → KI → Int32 → Prop
  | 0, _, _ => False
  | n3 + 1, I_1, x1_1 => (((69 : Int32) ≤ x1_1 → k22 I_1) ∧ (¬ (69 : Int32) ≤ x1_1 → (vp_in x1_1 69 ∧ wp_X11_forgets_L3 Qf_1 f0_1 k22 n3 (sti I_1 (rq Qf_1 f0_1 0) x1_1.toNatClampNeg (0 : Int32)) (x1_1 + (1 : Int32)))))
def wp_X11_forgets_L24 (Qf_6 : KQ) (f0_6 : Nat) (post : KI → Prop) : Nat → KI → Int32 → Prop
  | 0, _, _ => False
  | n24 + 1, I_6, x1_6 => (((6 : Int32) ≤ x1_6 → post (sti I_6 (rq Qf_6 f0_6 0) (4 : Int32).toNatClampNeg (0 : Int32))) ∧ (¬ (6 : Int32) ≤ x1_6 → (vp_in ((21 : Int32) + ((8 : Int32) * x1_6)) 69 ∧ wp_X11_forgets_L24 Qf_6 f0_6 post n24 (sti I_6 (rq Qf_6 f0_6 0) ((21 : Int32) + ((8 : Int32) * x1_6)).toNatClampNeg (1 : Int32)) (x1_6 + (1 : Int32)))))
def wp_X11_forgets (I : KI) (Q : KQ) (h0 : Nat) (post : KI → Prop) : Prop := (∃ q3, wp_X11_forgets_L3 Q h0 (fun I_5 => (∃ q24, wp_X11_forgets_L24 Q h0 post q24 I_5 (0 : Int32))) q3 I (15 : Int32))
set_option maxHeartbeats 4000000 in
set_option maxRecDepth 100000 in
theorem met_X11_forgets {Z : Nat → Prop} {A : Nat → Prop} {D : va_G} {D2 : Nat → ClassId} {ad : Nat → Nat} {N : Nat} {T : Nat → Nat × Nat} (l : Launch) {I : KI} {J : KJ} {Q : KQ} {h0 : Nat} {post : KI → Prop} (hWF : WF Z N T Q) (z0 : OKr Z N T h0 (11, 0)) (hw : wp_X11_forgets I Q h0 post) : Met l yX11_forgets (.code yX11_forgets cX11_forgets 2 none :: BIG) ({ frames := 0, cells := 0, slots := 0, locals := 0 }) (Pr D D2 A ad N T I J Q [.ref (ad h0)]) (va_Qv (fun (u : KS) => post u.1 ∧ u.2.1 = J ∧ u.2.2 = Q ∧ WF Z N T u.2.2) (Bw D D2 ad N T) A) 0 0 A := by
  refine Met_GG (lv0 := [(0, .ref (ad h0))]) (by decide +kernel) [.ref (ad h0)] (Nat.le_of_ble_eq_true rfl) rfl ?_
  intro p e s m below meth c C hr
  have C : CX p s m [.ref (ad h0)].toArray meth c cX11_forgets 2 RX11 A D D2 := C
  unfold wp_X11_forgets at hw
  refine g_bipush (v := (15 : Int32)) C dX11_forgets_0 (by decide) ?_
  refine g_istore_n (lv' := [(1, .int (15 : Int32)), (0, .ref (ad h0))]) C dX11_forgets_2 rfl (by decide) rfl ?_
  have K22_u4 : ∀ (I_5 : KI), ((∃ q24, wp_X11_forgets_L24 Q h0 post q24 I_5 (0 : Int32))) → WF Z N T Q → GG p l e ({ frames := 0, cells := 0, slots := 0, locals := 0 }) s m [.ref (ad h0)].toArray below meth c 2 A D D2 0 0 (MQ below (va_Qv (fun (u : KS) => post u.1 ∧ u.2.1 = J ∧ u.2.2 = Q ∧ WF Z N T u.2.2) (Bw D D2 ad N T) A) [.ref (ad h0)].toArray s 0 0 A) ad N T I_5 J Q 22 [(0, .ref (ad h0))] [] := by
    intro I_5 hw hWF
    refine g_iconst (v := (0 : Int32)) C dX11_forgets_22 (by decide) ?_
    refine g_istore_n (lv' := [(1, .int (0 : Int32)), (0, .ref (ad h0))]) C dX11_forgets_23 rfl (by decide) rfl ?_
    have L24_u10 : ∀ (n24 : Nat) (I_6 : KI) (x1_6 : Int32), wp_X11_forgets_L24 Q h0 post n24 I_6 x1_6 → WF Z N T Q → GG p l e ({ frames := 0, cells := 0, slots := 0, locals := 0 }) s m [.ref (ad h0)].toArray below meth c 2 A D D2 0 0 (MQ below (va_Qv (fun (u : KS) => post u.1 ∧ u.2.1 = J ∧ u.2.2 = Q ∧ WF Z N T u.2.2) (Bw D D2 ad N T) A) [.ref (ad h0)].toArray s 0 0 A) ad N T I_6 J Q 24 [(0, .ref (ad h0)), (1, .int x1_6)] [] := by
      intro n24
      induction n24 with
      | zero => intro I_6 x1_6 hw; exact hw.elim
      | succ n24 ih_u10 =>
        intro I_6 x1_6 hw hWF
        unfold wp_X11_forgets_L24 at hw
        refine g_iload_n C dX11_forgets_24 rfl 1 rfl ?_
        refine g_bipush (v := (6 : Int32)) C dX11_forgets_25 (by decide) ?_
        refine g_icmp_ge (tgt := 49) C dX11_forgets_27 (by decide) (fun c12 => ?_) (fun c12 => ?_)
        · have hw := hw.1 c12
          refine g_aload_n C dX11_forgets_49 rfl 0 rfl ?_
          refine g_getQ C dX11_forgets_50 ft_363 z0 (hWF.q z0 0 rfl) ?_
          have zz13 := hWF.r z0 0 rfl
          refine g_iconst (v := (4 : Int32)) C dX11_forgets_53 (by decide) ?_
          refine g_iconst (v := (0 : Int32)) C dX11_forgets_54 (by decide) ?_
          refine g_iast C dX11_forgets_55 zz13 (vp_lit (by decide +kernel)) ?_
          exact g_vret C dX11_forgets_56 hr ⟨hw, rfl, rfl, hWF⟩
        · have hw := hw.2 c12
          refine g_aload_n C dX11_forgets_30 rfl 0 rfl ?_
          refine g_getQ C dX11_forgets_31 ft_363 z0 (hWF.q z0 0 rfl) ?_
          have zz14 := hWF.r z0 0 rfl
          refine g_bipush (v := (21 : Int32)) C dX11_forgets_34 (by decide) ?_
          refine g_bipush (v := (8 : Int32)) C dX11_forgets_36 (by decide) ?_
          refine g_iload_n C dX11_forgets_38 rfl 1 rfl ?_
          refine g_imul C dX11_forgets_39 ?_
          refine g_iadd C dX11_forgets_40 ?_
          refine g_iconst (v := (1 : Int32)) C dX11_forgets_41 (by decide) ?_
          refine g_iast C dX11_forgets_42 zz14 hw.1 ?_
          have hw := hw.2
          refine g_iinc (v := (x1_6 + (1 : Int32))) (lv' := [(1, .int (x1_6 + (1 : Int32))), (0, .ref (ad h0))]) C dX11_forgets_43 (q := 1) rfl rfl (by decide) rfl ?_
          refine g_goto C dX11_forgets_46 (tgt := 24) (by decide) ?_
          refine g_sub [1, 0] rfl ?_
          exact ih_u10 (sti I_6 (rq Q h0 0) ((21 : Int32) + ((8 : Int32) * x1_6)).toNatClampNeg (1 : Int32)) (x1_6 + (1 : Int32)) hw hWF
    obtain ⟨n_u10, hw⟩ := hw
    refine g_sub [1, 0] rfl ?_
    exact L24_u10 n_u10 I_5 (0 : Int32) hw hWF
  have L3_u4 : ∀ (n3 : Nat) (I_1 : KI) (x1_1 : Int32), wp_X11_forgets_L3 Q h0 (fun I_5 => (∃ q24, wp_X11_forgets_L24 Q h0 post q24 I_5 (0 : Int32))) n3 I_1 x1_1 → WF Z N T Q → GG p l e ({ frames := 0, cells := 0, slots := 0, locals := 0 }) s m [.ref (ad h0)].toArray below meth c 2 A D D2 0 0 (MQ below (va_Qv (fun (u : KS) => post u.1 ∧ u.2.1 = J ∧ u.2.2 = Q ∧ WF Z N T u.2.2) (Bw D D2 ad N T) A) [.ref (ad h0)].toArray s 0 0 A) ad N T I_1 J Q 3 [(0, .ref (ad h0)), (1, .int x1_1)] [] := by
    intro n3
    induction n3 with
    | zero => intro I_1 x1_1 hw; exact hw.elim
    | succ n3 ih_u4 =>
      intro I_1 x1_1 hw hWF
      unfold wp_X11_forgets_L3 at hw
      refine g_iload_n C dX11_forgets_3 rfl 1 rfl ?_
      refine g_bipush (v := (69 : Int32)) C dX11_forgets_4 (by decide) ?_
      refine g_icmp_ge (tgt := 22) C dX11_forgets_6 (by decide) (fun c16 => ?_) (fun c16 => ?_)
      · have hw := hw.1 c16
        refine g_sub [0] rfl ?_
        exact K22_u4 I_1 hw hWF
      · have hw := hw.2 c16
        refine g_aload_n C dX11_forgets_9 rfl 0 rfl ?_
        refine g_getQ C dX11_forgets_10 ft_363 z0 (hWF.q z0 0 rfl) ?_
        have zz17 := hWF.r z0 0 rfl
        refine g_iload_n C dX11_forgets_13 rfl 1 rfl ?_
        refine g_iconst (v := (0 : Int32)) C dX11_forgets_14 (by decide) ?_
        refine g_iast C dX11_forgets_15 zz17 hw.1 ?_
        have hw := hw.2
        refine g_iinc (v := (x1_1 + (1 : Int32))) (lv' := [(1, .int (x1_1 + (1 : Int32))), (0, .ref (ad h0))]) C dX11_forgets_16 (q := 1) rfl rfl (by decide) rfl ?_
        refine g_goto C dX11_forgets_19 (tgt := 3) (by decide) ?_
        refine g_sub [1, 0] rfl ?_
        exact ih_u4 (sti I_1 (rq Q h0 0) x1_1.toNatClampNeg (0 : Int32)) (x1_1 + (1 : Int32)) hw hWF
  obtain ⟨n_u4, hw⟩ := hw
  refine g_sub [1, 0] rfl ?_
  exact L3_u4 n_u4 I (15 : Int32) hw hWF
def wp_X11_copies_L3 (f0_1 : Nat) (f1_1 : Int32) (f2_1 : Nat) (f3_1 : Int32) (f4_1 : Int32) (m0 : Nat) (m2 : Nat) (post : KI → Prop) : Nat → KI → Int32 → Prop
  | 0, _, _ => False
  | n3 + 1, I_1, x5_1 => ((f4_1 ≤ x5_1 → post I_1) ∧ (¬ f4_1 ≤ x5_1 → (vp_in (f1_1 + x5_1) m0 ∧ (vp_in (f3_1 + x5_1) m2 ∧ wp_X11_copies_L3 f0_1 f1_1 f2_1 f3_1 f4_1 m0 m2 post n3 (sti I_1 f2_1 (f3_1 + x5_1).toNatClampNeg (I_1 f0_1 (f1_1 + x5_1).toNatClampNeg)) (x5_1 + (1 : Int32))))))
def wp_X11_copies (I : KI) (h0 m0 : Nat) (x1 : Int32) (h2 m2 : Nat) (x3 : Int32) (x4 : Int32) (post : KI → Prop) : Prop := (∃ q3, wp_X11_copies_L3 h0 x1 h2 x3 x4 m0 m2 post q3 I (0 : Int32))
set_option maxHeartbeats 4000000 in
set_option maxRecDepth 100000 in
theorem met_X11_copies {Z : Nat → Prop} {A : Nat → Prop} {D : va_G} {D2 : Nat → ClassId} {ad : Nat → Nat} {N : Nat} {T : Nat → Nat × Nat} (l : Launch) {I : KI} {J : KJ} {Q : KQ} {h0 : Nat} {m0 : Nat} {x1 : Int32} {h2 : Nat} {m2 : Nat} {x3 : Int32} {x4 : Int32} {post : KI → Prop} (hWF : WF Z N T Q) (z0 : OKr Z N T h0 (20, m0)) (z2 : OKr Z N T h2 (20, m2)) (hw : wp_X11_copies I h0 m0 x1 h2 m2 x3 x4 post) : Met l yX11_copies (.code yX11_copies cX11_copies 6 none :: BIG) ({ frames := 0, cells := 0, slots := 0, locals := 0 }) (Pr D D2 A ad N T I J Q [.ref (ad h0), .int x1, .ref (ad h2), .int x3, .int x4]) (va_Qv (fun (u : KS) => post u.1 ∧ u.2.1 = J ∧ u.2.2 = Q ∧ WF Z N T u.2.2) (Bw D D2 ad N T) A) 0 0 A := by
  refine Met_GG (lv0 := [(0, .ref (ad h0)), (1, .int x1), (2, .ref (ad h2)), (3, .int x3), (4, .int x4)]) (by decide +kernel) [.ref (ad h0), .int x1, .ref (ad h2), .int x3, .int x4] (Nat.le_of_ble_eq_true rfl) rfl ?_
  intro p e s m below meth c C hr
  have C : CX p s m [.ref (ad h0), .int x1, .ref (ad h2), .int x3, .int x4].toArray meth c cX11_copies 6 RX11 A D D2 := C
  unfold wp_X11_copies at hw
  refine g_iconst (v := (0 : Int32)) C dX11_copies_0 (by decide) ?_
  refine g_istore (lv' := [(5, .int (0 : Int32)), (0, .ref (ad h0)), (1, .int x1), (2, .ref (ad h2)), (3, .int x3), (4, .int x4)]) C dX11_copies_1 (by decide) rfl ?_
  have L3_u3 : ∀ (n3 : Nat) (I_1 : KI) (x5_1 : Int32), wp_X11_copies_L3 h0 x1 h2 x3 x4 m0 m2 post n3 I_1 x5_1 → WF Z N T Q → GG p l e ({ frames := 0, cells := 0, slots := 0, locals := 0 }) s m [.ref (ad h0), .int x1, .ref (ad h2), .int x3, .int x4].toArray below meth c 6 A D D2 0 0 (MQ below (va_Qv (fun (u : KS) => post u.1 ∧ u.2.1 = J ∧ u.2.2 = Q ∧ WF Z N T u.2.2) (Bw D D2 ad N T) A) [.ref (ad h0), .int x1, .ref (ad h2), .int x3, .int x4].toArray s 0 0 A) ad N T I_1 J Q 3 [(0, .ref (ad h0)), (1, .int x1), (2, .ref (ad h2)), (3, .int x3), (4, .int x4), (5, .int x5_1)] [] := by
    intro n3
    induction n3 with
    | zero => intro I_1 x5_1 hw; exact hw.elim
    | succ n3 ih_u3 =>
      intro I_1 x5_1 hw hWF
      unfold wp_X11_copies_L3 at hw
      refine g_iload C dX11_copies_3 5 rfl ?_
      refine g_iload C dX11_copies_5 4 rfl ?_
      refine g_icmp_ge (tgt := 28) C dX11_copies_7 (by decide) (fun c5 => ?_) (fun c5 => ?_)
      · have hw := hw.1 c5
        exact g_vret C dX11_copies_28 hr ⟨hw, rfl, rfl, hWF⟩
      · have hw := hw.2 c5
        refine g_aload_n C dX11_copies_10 rfl 2 rfl ?_
        refine g_iload_n C dX11_copies_11 rfl 3 rfl ?_
        refine g_iload C dX11_copies_12 5 rfl ?_
        refine g_iadd C dX11_copies_14 ?_
        refine g_aload_n C dX11_copies_15 rfl 0 rfl ?_
        refine g_iload_n C dX11_copies_16 rfl 1 rfl ?_
        refine g_iload C dX11_copies_17 5 rfl ?_
        refine g_iadd C dX11_copies_19 ?_
        refine g_iald C dX11_copies_20 z0 hw.1 ?_
        have hw := hw.2
        refine g_iast C dX11_copies_21 z2 hw.1 ?_
        have hw := hw.2
        refine g_iinc (v := (x5_1 + (1 : Int32))) (lv' := [(5, .int (x5_1 + (1 : Int32))), (0, .ref (ad h0)), (1, .int x1), (2, .ref (ad h2)), (3, .int x3), (4, .int x4)]) C dX11_copies_22 (q := 5) rfl rfl (by decide) rfl ?_
        refine g_goto C dX11_copies_25 (tgt := 3) (by decide) ?_
        refine g_sub [1, 2, 3, 4, 5, 0] rfl ?_
        exact ih_u3 (sti I_1 h2 (x3 + x5_1).toNatClampNeg (I_1 h0 (x1 + x5_1).toNatClampNeg)) (x5_1 + (1 : Int32)) hw hWF
  obtain ⟨n_u3, hw⟩ := hw
  refine g_sub [1, 2, 3, 4, 5, 0] rfl ?_
  exact L3_u3 n_u3 I (0 : Int32) hw hWF
def wp_X11_remembers (I : KI) (Q : KQ) (h0 : Nat) (post : KI → Prop) : Prop := wp_X11_copies I (rq Q h0 0) 69 (0 : Int32) (rq Q h0 3) 414 ((69 : Int32) * (I h0 2)) (69 : Int32) (fun I3 => (((6 : Int32) ≤ ((sti I3 h0 2 (((I3 h0 2) + (1 : Int32)) - ((I3 h0 2) + (1 : Int32)) / (6 : Int32) * (6 : Int32))) h0 1) → post (sti (sti I3 h0 2 (((I3 h0 2) + (1 : Int32)) - ((I3 h0 2) + (1 : Int32)) / (6 : Int32) * (6 : Int32))) h0 1 (((sti I3 h0 2 (((I3 h0 2) + (1 : Int32)) - ((I3 h0 2) + (1 : Int32)) / (6 : Int32) * (6 : Int32))) h0 1) + (0 : Int32)))) ∧ (¬ (6 : Int32) ≤ ((sti I3 h0 2 (((I3 h0 2) + (1 : Int32)) - ((I3 h0 2) + (1 : Int32)) / (6 : Int32) * (6 : Int32))) h0 1) → post (sti (sti I3 h0 2 (((I3 h0 2) + (1 : Int32)) - ((I3 h0 2) + (1 : Int32)) / (6 : Int32) * (6 : Int32))) h0 1 (((sti I3 h0 2 (((I3 h0 2) + (1 : Int32)) - ((I3 h0 2) + (1 : Int32)) / (6 : Int32) * (6 : Int32))) h0 1) + (1 : Int32))))))
set_option maxHeartbeats 4000000 in
set_option maxRecDepth 100000 in
theorem met_X11_remembers {Z : Nat → Prop} {A : Nat → Prop} {D : va_G} {D2 : Nat → ClassId} {ad : Nat → Nat} {N : Nat} {T : Nat → Nat × Nat} (l : Launch) {I : KI} {J : KJ} {Q : KQ} {h0 : Nat} {post : KI → Prop} (hWF : WF Z N T Q) (z0 : OKr Z N T h0 (11, 0)) (hw : wp_X11_remembers I Q h0 post) : Met l yX11_remembers (.code yX11_remembers cX11_remembers 1 none :: BIG) ({ frames := 1, cells := 0, slots := 0, locals := 25 }) (Pr D D2 A ad N T I J Q [.ref (ad h0)]) (va_Qv (fun (u : KS) => post u.1 ∧ u.2.1 = J ∧ u.2.2 = Q ∧ WF Z N T u.2.2) (Bw D D2 ad N T) A) 0 0 A := by
  refine Met_GG (lv0 := [(0, .ref (ad h0))]) (by decide +kernel) [.ref (ad h0)] (Nat.le_of_ble_eq_true rfl) rfl ?_
  intro p e s m below meth c C hr
  have C : CX p s m [.ref (ad h0)].toArray meth c cX11_remembers 1 RX11 A D D2 := C
  unfold wp_X11_remembers at hw
  refine g_aload_n C dX11_remembers_0 rfl 0 rfl ?_
  refine g_getQ C dX11_remembers_1 ft_363 z0 (hWF.q z0 0 rfl) ?_
  have zz1 := hWF.r z0 0 rfl
  refine g_iconst (v := (0 : Int32)) C dX11_remembers_4 (by decide) ?_
  refine g_aload_n C dX11_remembers_5 rfl 0 rfl ?_
  refine g_getQ C dX11_remembers_6 ft_367 z0 (hWF.q z0 3 rfl) ?_
  have zz2 := hWF.r z0 3 rfl
  refine g_bipush (v := (69 : Int32)) C dX11_remembers_9 (by decide) ?_
  refine g_aload_n C dX11_remembers_11 rfl 0 rfl ?_
  refine g_getI C dX11_remembers_12 ft_368 z0 ?_
  refine g_imul C dX11_remembers_15 ?_
  refine g_bipush (v := (69 : Int32)) C dX11_remembers_16 (by decide) ?_
  refine g_callSv (As := [.ref (ad (rq Q h0 0)), .int (0 : Int32), .ref (ad (rq Q h0 3)), .int ((69 : Int32) * (I h0 2)), .int (69 : Int32)]) C dX11_remembers_18 ft_372 ft_373 (met_X11_copies l hWF zz1 zz2 hw) ⟨rfl, rfl, Nat.le_of_ble_eq_true rfl, Nat.le_of_ble_eq_true rfl⟩ ⟨Nat.zero_le _, Nat.zero_le _⟩ rfl rfl (Nat.le_of_ble_eq_true rfl) (fun I3 J3 Q3 hp => ?_)
  obtain ⟨hw, eJ, eQ, hWF⟩ := hp
  have eJ : J = J3 := Eq.symm eJ
  subst eJ
  have eQ : Q = Q3 := Eq.symm eQ
  subst eQ
  try dsimp only at hw hWF
  refine g_aload_n C dX11_remembers_21 rfl 0 rfl ?_
  refine g_aload_n C dX11_remembers_22 rfl 0 rfl ?_
  refine g_getI C dX11_remembers_23 ft_368 z0 ?_
  refine g_iconst (v := (1 : Int32)) C dX11_remembers_26 (by decide) ?_
  refine g_iadd C dX11_remembers_27 ?_
  refine g_bipush (v := (6 : Int32)) C dX11_remembers_28 (by decide) ?_
  refine g_irem C dX11_remembers_30 (by decide) ?_
  refine g_putI C dX11_remembers_31 ft_369 z0 ?_
  refine g_aload_n C dX11_remembers_34 rfl 0 rfl ?_
  refine g_dup C dX11_remembers_35 rfl ?_
  refine g_getI C dX11_remembers_36 ft_370 z0 ?_
  refine g_aload_n C dX11_remembers_39 rfl 0 rfl ?_
  refine g_getI C dX11_remembers_40 ft_370 z0 ?_
  refine g_bipush (v := (6 : Int32)) C dX11_remembers_43 (by decide) ?_
  refine g_icmp_ge (tgt := 52) C dX11_remembers_45 (by decide) (fun c4 => ?_) (fun c4 => ?_)
  · have hw := hw.1 c4
    refine g_iconst (v := (0 : Int32)) C dX11_remembers_52 (by decide) ?_
    refine g_iadd C dX11_remembers_53 ?_
    refine g_putI C dX11_remembers_54 ft_371 z0 ?_
    exact g_vret C dX11_remembers_57 hr ⟨hw, rfl, rfl, hWF⟩
  · have hw := hw.2 c4
    refine g_iconst (v := (1 : Int32)) C dX11_remembers_48 (by decide) ?_
    refine g_goto C dX11_remembers_49 (tgt := 53) (by decide) ?_
    refine g_iadd C dX11_remembers_53 ?_
    refine g_putI C dX11_remembers_54 ft_371 z0 ?_
    exact g_vret C dX11_remembers_57 hr ⟨hw, rfl, rfl, hWF⟩
def wp_X11_undo (I : KI) (Q : KQ) (h0 : Nat) (post : Int32 → KI → Prop) : Prop := ((¬ (I h0 1) = 0 → wp_X11_copies (sti (sti I h0 2 ((((I h0 2) + (6 : Int32)) - (1 : Int32)) - (((I h0 2) + (6 : Int32)) - (1 : Int32)) / (6 : Int32) * (6 : Int32))) h0 1 (((sti I h0 2 ((((I h0 2) + (6 : Int32)) - (1 : Int32)) - (((I h0 2) + (6 : Int32)) - (1 : Int32)) / (6 : Int32) * (6 : Int32))) h0 1) - (1 : Int32))) (rq Q h0 3) 414 ((69 : Int32) * ((sti (sti I h0 2 ((((I h0 2) + (6 : Int32)) - (1 : Int32)) - (((I h0 2) + (6 : Int32)) - (1 : Int32)) / (6 : Int32) * (6 : Int32))) h0 1 (((sti I h0 2 ((((I h0 2) + (6 : Int32)) - (1 : Int32)) - (((I h0 2) + (6 : Int32)) - (1 : Int32)) / (6 : Int32) * (6 : Int32))) h0 1) - (1 : Int32))) h0 2)) (rq Q h0 0) 69 (0 : Int32) (69 : Int32) (fun I4 => post (I4 h0 1) I4)) ∧ ((I h0 1) = 0 → post (-4 : Int32) I))
set_option maxHeartbeats 4000000 in
set_option maxRecDepth 100000 in
theorem met_X11_undo {Z : Nat → Prop} {A : Nat → Prop} {D : va_G} {D2 : Nat → ClassId} {ad : Nat → Nat} {N : Nat} {T : Nat → Nat × Nat} (l : Launch) {I : KI} {J : KJ} {Q : KQ} {h0 : Nat} {post : Int32 → KI → Prop} (hWF : WF Z N T Q) (z0 : OKr Z N T h0 (11, 0)) (hw : wp_X11_undo I Q h0 post) : Met l yX11_undo (.code yX11_undo cX11_undo 1 (some .int) :: BIG) ({ frames := 1, cells := 0, slots := 0, locals := 25 }) (Pr D D2 A ad N T I J Q [.ref (ad h0)]) (va_Qi (fun (r : Int32) (u : KS) => post r u.1 ∧ u.2.1 = J ∧ u.2.2 = Q ∧ WF Z N T u.2.2) (Bw D D2 ad N T) A) 0 0 A := by
  refine Met_GG (lv0 := [(0, .ref (ad h0))]) (by decide +kernel) [.ref (ad h0)] (Nat.le_of_ble_eq_true rfl) rfl ?_
  intro p e s m below meth c C hr
  have C : CX p s m [.ref (ad h0)].toArray meth c cX11_undo 1 RX11 A D D2 := C
  unfold wp_X11_undo at hw
  refine g_aload_n C dX11_undo_0 rfl 0 rfl ?_
  refine g_getI C dX11_undo_1 ft_370 z0 ?_
  refine g_if_ne (tgt := 10) C dX11_undo_4 (by decide) (fun c1 => ?_) (fun c1 => ?_)
  · have hw := hw.1 c1
    refine g_aload_n C dX11_undo_10 rfl 0 rfl ?_
    refine g_aload_n C dX11_undo_11 rfl 0 rfl ?_
    refine g_getI C dX11_undo_12 ft_368 z0 ?_
    refine g_bipush (v := (6 : Int32)) C dX11_undo_15 (by decide) ?_
    refine g_iadd C dX11_undo_17 ?_
    refine g_iconst (v := (1 : Int32)) C dX11_undo_18 (by decide) ?_
    refine g_isub C dX11_undo_19 ?_
    refine g_bipush (v := (6 : Int32)) C dX11_undo_20 (by decide) ?_
    refine g_irem C dX11_undo_22 (by decide) ?_
    refine g_putI C dX11_undo_23 ft_369 z0 ?_
    refine g_aload_n C dX11_undo_26 rfl 0 rfl ?_
    refine g_dup C dX11_undo_27 rfl ?_
    refine g_getI C dX11_undo_28 ft_370 z0 ?_
    refine g_iconst (v := (1 : Int32)) C dX11_undo_31 (by decide) ?_
    refine g_isub C dX11_undo_32 ?_
    refine g_putI C dX11_undo_33 ft_371 z0 ?_
    refine g_aload_n C dX11_undo_36 rfl 0 rfl ?_
    refine g_getQ C dX11_undo_37 ft_367 z0 (hWF.q z0 3 rfl) ?_
    have zz2 := hWF.r z0 3 rfl
    refine g_bipush (v := (69 : Int32)) C dX11_undo_40 (by decide) ?_
    refine g_aload_n C dX11_undo_42 rfl 0 rfl ?_
    refine g_getI C dX11_undo_43 ft_368 z0 ?_
    refine g_imul C dX11_undo_46 ?_
    refine g_aload_n C dX11_undo_47 rfl 0 rfl ?_
    refine g_getQ C dX11_undo_48 ft_363 z0 (hWF.q z0 0 rfl) ?_
    have zz3 := hWF.r z0 0 rfl
    refine g_iconst (v := (0 : Int32)) C dX11_undo_51 (by decide) ?_
    refine g_bipush (v := (69 : Int32)) C dX11_undo_52 (by decide) ?_
    refine g_callSv (As := [.ref (ad (rq Q h0 3)), .int ((69 : Int32) * ((sti (sti I h0 2 ((((I h0 2) + (6 : Int32)) - (1 : Int32)) - (((I h0 2) + (6 : Int32)) - (1 : Int32)) / (6 : Int32) * (6 : Int32))) h0 1 (((sti I h0 2 ((((I h0 2) + (6 : Int32)) - (1 : Int32)) - (((I h0 2) + (6 : Int32)) - (1 : Int32)) / (6 : Int32) * (6 : Int32))) h0 1) - (1 : Int32))) h0 2)), .ref (ad (rq Q h0 0)), .int (0 : Int32), .int (69 : Int32)]) C dX11_undo_54 ft_372 ft_373 (met_X11_copies l hWF zz2 zz3 hw) ⟨rfl, rfl, Nat.le_of_ble_eq_true rfl, Nat.le_of_ble_eq_true rfl⟩ ⟨Nat.zero_le _, Nat.zero_le _⟩ rfl rfl (Nat.le_of_ble_eq_true rfl) (fun I4 J4 Q4 hp => ?_)
    obtain ⟨hw, eJ, eQ, hWF⟩ := hp
    have eJ : J = J4 := Eq.symm eJ
    subst eJ
    have eQ : Q = Q4 := Eq.symm eQ
    subst eQ
    try dsimp only at hw hWF
    refine g_aload_n C dX11_undo_57 rfl 0 rfl ?_
    refine g_getI C dX11_undo_58 ft_370 z0 ?_
    exact g_iret C dX11_undo_61 hr ⟨hw, rfl, rfl, hWF⟩
  · have hw := hw.2 c1
    refine g_bipush (v := (-4 : Int32)) C dX11_undo_7 (by decide) ?_
    exact g_iret C dX11_undo_9 hr ⟨hw, rfl, rfl, hWF⟩
def wp_X11_image (I : KI) (Q : KQ) (h0 : Nat) (post : Int32 → KI → Prop) : Prop := wp_X11_copies (sti I h0 4 (1 : Int32)) (rq Q h0 0) 69 (0 : Int32) (rq Q h0 7) 483 (0 : Int32) (69 : Int32) (fun I3 => wp_X11_copies I3 (rq Q h0 3) 414 (0 : Int32) (rq Q h0 7) 483 (69 : Int32) (414 : Int32) (fun I6 => post (1 : Int32) (sti (sti I6 h0 5 (I6 h0 1)) h0 6 ((sti I6 h0 5 (I6 h0 1)) h0 2))))
set_option maxHeartbeats 4000000 in
set_option maxRecDepth 100000 in
theorem met_X11_image {Z : Nat → Prop} {A : Nat → Prop} {D : va_G} {D2 : Nat → ClassId} {ad : Nat → Nat} {N : Nat} {T : Nat → Nat × Nat} (l : Launch) {I : KI} {J : KJ} {Q : KQ} {h0 : Nat} {post : Int32 → KI → Prop} (hWF : WF Z N T Q) (z0 : OKr Z N T h0 (11, 0)) (hw : wp_X11_image I Q h0 post) : Met l yX11_image (.code yX11_image cX11_image 1 (some .int) :: BIG) ({ frames := 1, cells := 0, slots := 0, locals := 25 }) (Pr D D2 A ad N T I J Q [.ref (ad h0)]) (va_Qi (fun (r : Int32) (u : KS) => post r u.1 ∧ u.2.1 = J ∧ u.2.2 = Q ∧ WF Z N T u.2.2) (Bw D D2 ad N T) A) 0 0 A := by
  refine Met_GG (lv0 := [(0, .ref (ad h0))]) (by decide +kernel) [.ref (ad h0)] (Nat.le_of_ble_eq_true rfl) rfl ?_
  intro p e s m below meth c C hr
  have C : CX p s m [.ref (ad h0)].toArray meth c cX11_image 1 RX11 A D D2 := C
  unfold wp_X11_image at hw
  refine g_aload_n C dX11_image_0 rfl 0 rfl ?_
  refine g_iconst (v := (1 : Int32)) C dX11_image_1 (by decide) ?_
  refine g_putZ C dX11_image_2 ft_374 z0 rfl rfl ?_
  refine g_aload_n C dX11_image_5 rfl 0 rfl ?_
  refine g_getQ C dX11_image_6 ft_363 z0 (hWF.q z0 0 rfl) ?_
  have zz1 := hWF.r z0 0 rfl
  refine g_iconst (v := (0 : Int32)) C dX11_image_9 (by decide) ?_
  refine g_aload_n C dX11_image_10 rfl 0 rfl ?_
  refine g_getQ C dX11_image_11 ft_375 z0 (hWF.q z0 7 rfl) ?_
  have zz2 := hWF.r z0 7 rfl
  refine g_iconst (v := (0 : Int32)) C dX11_image_14 (by decide) ?_
  refine g_bipush (v := (69 : Int32)) C dX11_image_15 (by decide) ?_
  refine g_callSv (As := [.ref (ad (rq Q h0 0)), .int (0 : Int32), .ref (ad (rq Q h0 7)), .int (0 : Int32), .int (69 : Int32)]) C dX11_image_17 ft_372 ft_373 (met_X11_copies l hWF zz1 zz2 hw) ⟨rfl, rfl, Nat.le_of_ble_eq_true rfl, Nat.le_of_ble_eq_true rfl⟩ ⟨Nat.zero_le _, Nat.zero_le _⟩ rfl rfl (Nat.le_of_ble_eq_true rfl) (fun I3 J3 Q3 hp => ?_)
  obtain ⟨hw, eJ, eQ, hWF⟩ := hp
  have eJ : J = J3 := Eq.symm eJ
  subst eJ
  have eQ : Q = Q3 := Eq.symm eQ
  subst eQ
  try dsimp only at hw hWF
  refine g_aload_n C dX11_image_20 rfl 0 rfl ?_
  refine g_getQ C dX11_image_21 ft_367 z0 (hWF.q z0 3 rfl) ?_
  have zz4 := hWF.r z0 3 rfl
  refine g_iconst (v := (0 : Int32)) C dX11_image_24 (by decide) ?_
  refine g_aload_n C dX11_image_25 rfl 0 rfl ?_
  refine g_getQ C dX11_image_26 ft_375 z0 (hWF.q z0 7 rfl) ?_
  have zz5 := hWF.r z0 7 rfl
  refine g_bipush (v := (69 : Int32)) C dX11_image_29 (by decide) ?_
  refine g_sipush (v := (414 : Int32)) C dX11_image_31 (by decide) ?_
  refine g_callSv (As := [.ref (ad (rq Q h0 3)), .int (0 : Int32), .ref (ad (rq Q h0 7)), .int (69 : Int32), .int (414 : Int32)]) C dX11_image_34 ft_372 ft_373 (met_X11_copies l hWF zz4 zz5 hw) ⟨rfl, rfl, Nat.le_of_ble_eq_true rfl, Nat.le_of_ble_eq_true rfl⟩ ⟨Nat.zero_le _, Nat.zero_le _⟩ rfl rfl (Nat.le_of_ble_eq_true rfl) (fun I6 J6 Q6 hp => ?_)
  obtain ⟨hw, eJ, eQ, hWF⟩ := hp
  have eJ : J = J6 := Eq.symm eJ
  subst eJ
  have eQ : Q = Q6 := Eq.symm eQ
  subst eQ
  try dsimp only at hw hWF
  refine g_aload_n C dX11_image_37 rfl 0 rfl ?_
  refine g_aload_n C dX11_image_38 rfl 0 rfl ?_
  refine g_getI C dX11_image_39 ft_370 z0 ?_
  refine g_putI C dX11_image_42 ft_376 z0 ?_
  refine g_aload_n C dX11_image_45 rfl 0 rfl ?_
  refine g_aload_n C dX11_image_46 rfl 0 rfl ?_
  refine g_getI C dX11_image_47 ft_368 z0 ?_
  refine g_putI C dX11_image_50 ft_377 z0 ?_
  refine g_iconst (v := (1 : Int32)) C dX11_image_53 (by decide) ?_
  exact g_iret C dX11_image_54 hr ⟨hw, rfl, rfl, hWF⟩
def wp_X11_restore (I : KI) (Q : KQ) (h0 : Nat) (post : Int32 → KI → Prop) : Prop := ((¬ (I h0 4) = 0 → wp_X11_copies I (rq Q h0 7) 483 (0 : Int32) (rq Q h0 0) 69 (0 : Int32) (69 : Int32) (fun I4 => wp_X11_copies I4 (rq Q h0 7) 483 (69 : Int32) (rq Q h0 3) 414 (0 : Int32) (414 : Int32) (fun I7 => post (1 : Int32) (sti (sti I7 h0 1 (I7 h0 5)) h0 2 ((sti I7 h0 1 (I7 h0 5)) h0 6))))) ∧ ((I h0 4) = 0 → post (-4 : Int32) I))
set_option maxHeartbeats 4000000 in
set_option maxRecDepth 100000 in
theorem met_X11_restore {Z : Nat → Prop} {A : Nat → Prop} {D : va_G} {D2 : Nat → ClassId} {ad : Nat → Nat} {N : Nat} {T : Nat → Nat × Nat} (l : Launch) {I : KI} {J : KJ} {Q : KQ} {h0 : Nat} {post : Int32 → KI → Prop} (hWF : WF Z N T Q) (z0 : OKr Z N T h0 (11, 0)) (hw : wp_X11_restore I Q h0 post) : Met l yX11_restore (.code yX11_restore cX11_restore 1 (some .int) :: BIG) ({ frames := 1, cells := 0, slots := 0, locals := 25 }) (Pr D D2 A ad N T I J Q [.ref (ad h0)]) (va_Qi (fun (r : Int32) (u : KS) => post r u.1 ∧ u.2.1 = J ∧ u.2.2 = Q ∧ WF Z N T u.2.2) (Bw D D2 ad N T) A) 0 0 A := by
  refine Met_GG (lv0 := [(0, .ref (ad h0))]) (by decide +kernel) [.ref (ad h0)] (Nat.le_of_ble_eq_true rfl) rfl ?_
  intro p e s m below meth c C hr
  have C : CX p s m [.ref (ad h0)].toArray meth c cX11_restore 1 RX11 A D D2 := C
  unfold wp_X11_restore at hw
  refine g_aload_n C dX11_restore_0 rfl 0 rfl ?_
  refine g_getI C dX11_restore_1 ft_378 z0 ?_
  refine g_if_ne (tgt := 10) C dX11_restore_4 (by decide) (fun c1 => ?_) (fun c1 => ?_)
  · have hw := hw.1 c1
    refine g_aload_n C dX11_restore_10 rfl 0 rfl ?_
    refine g_getQ C dX11_restore_11 ft_375 z0 (hWF.q z0 7 rfl) ?_
    have zz2 := hWF.r z0 7 rfl
    refine g_iconst (v := (0 : Int32)) C dX11_restore_14 (by decide) ?_
    refine g_aload_n C dX11_restore_15 rfl 0 rfl ?_
    refine g_getQ C dX11_restore_16 ft_363 z0 (hWF.q z0 0 rfl) ?_
    have zz3 := hWF.r z0 0 rfl
    refine g_iconst (v := (0 : Int32)) C dX11_restore_19 (by decide) ?_
    refine g_bipush (v := (69 : Int32)) C dX11_restore_20 (by decide) ?_
    refine g_callSv (As := [.ref (ad (rq Q h0 7)), .int (0 : Int32), .ref (ad (rq Q h0 0)), .int (0 : Int32), .int (69 : Int32)]) C dX11_restore_22 ft_372 ft_373 (met_X11_copies l hWF zz2 zz3 hw) ⟨rfl, rfl, Nat.le_of_ble_eq_true rfl, Nat.le_of_ble_eq_true rfl⟩ ⟨Nat.zero_le _, Nat.zero_le _⟩ rfl rfl (Nat.le_of_ble_eq_true rfl) (fun I4 J4 Q4 hp => ?_)
    obtain ⟨hw, eJ, eQ, hWF⟩ := hp
    have eJ : J = J4 := Eq.symm eJ
    subst eJ
    have eQ : Q = Q4 := Eq.symm eQ
    subst eQ
    try dsimp only at hw hWF
    refine g_aload_n C dX11_restore_25 rfl 0 rfl ?_
    refine g_getQ C dX11_restore_26 ft_375 z0 (hWF.q z0 7 rfl) ?_
    have zz5 := hWF.r z0 7 rfl
    refine g_bipush (v := (69 : Int32)) C dX11_restore_29 (by decide) ?_
    refine g_aload_n C dX11_restore_31 rfl 0 rfl ?_
    refine g_getQ C dX11_restore_32 ft_367 z0 (hWF.q z0 3 rfl) ?_
    have zz6 := hWF.r z0 3 rfl
    refine g_iconst (v := (0 : Int32)) C dX11_restore_35 (by decide) ?_
    refine g_sipush (v := (414 : Int32)) C dX11_restore_36 (by decide) ?_
    refine g_callSv (As := [.ref (ad (rq Q h0 7)), .int (69 : Int32), .ref (ad (rq Q h0 3)), .int (0 : Int32), .int (414 : Int32)]) C dX11_restore_39 ft_372 ft_373 (met_X11_copies l hWF zz5 zz6 hw) ⟨rfl, rfl, Nat.le_of_ble_eq_true rfl, Nat.le_of_ble_eq_true rfl⟩ ⟨Nat.zero_le _, Nat.zero_le _⟩ rfl rfl (Nat.le_of_ble_eq_true rfl) (fun I7 J7 Q7 hp => ?_)
    obtain ⟨hw, eJ, eQ, hWF⟩ := hp
    have eJ : J = J7 := Eq.symm eJ
    subst eJ
    have eQ : Q = Q7 := Eq.symm eQ
    subst eQ
    try dsimp only at hw hWF
    refine g_aload_n C dX11_restore_42 rfl 0 rfl ?_
    refine g_aload_n C dX11_restore_43 rfl 0 rfl ?_
    refine g_getI C dX11_restore_44 ft_379 z0 ?_
    refine g_putI C dX11_restore_47 ft_371 z0 ?_
    refine g_aload_n C dX11_restore_50 rfl 0 rfl ?_
    refine g_aload_n C dX11_restore_51 rfl 0 rfl ?_
    refine g_getI C dX11_restore_52 ft_380 z0 ?_
    refine g_putI C dX11_restore_55 ft_369 z0 ?_
    refine g_iconst (v := (1 : Int32)) C dX11_restore_58 (by decide) ?_
    exact g_iret C dX11_restore_59 hr ⟨hw, rfl, rfl, hWF⟩
  · have hw := hw.2 c1
    refine g_bipush (v := (-4 : Int32)) C dX11_restore_7 (by decide) ?_
    exact g_iret C dX11_restore_9 hr ⟨hw, rfl, rfl, hWF⟩
def wp_X11_linkedBy_L6 (f0_1 : Int32) (f1_1 : Int32) (f2_1 : Int32) (f3_1 : Int32) (post : Int32 → Prop) : Nat → Int32 → Int32 → Prop
  | 0, _, _ => False
  | n6 + 1, x4_1, x5_1 => ((f2_1 ≤ x5_1 → post x4_1) ∧ (¬ f2_1 ≤ x5_1 → ((x5_1 = f1_1 → wp_X11_linkedBy_L6 f0_1 f1_1 f2_1 f3_1 post n6 (x4_1 ||| (0 : Int32)) (x5_1 + (1 : Int32))) ∧ (¬ x5_1 = f1_1 → ((¬ f3_1 = 0 → wp_X11_linkedBy_L6 f0_1 f1_1 f2_1 f3_1 post n6 (x4_1 ||| ((1 : Int32) <<< (x5_1 &&& 31))) (x5_1 + (1 : Int32))) ∧ (f3_1 = 0 → wp_X11_linkOf x5_1 f1_1 (fun r5 => wp_X11_has f0_1 r5 (fun r6 => ((r6 = 0 → wp_X11_linkedBy_L6 f0_1 f1_1 f2_1 f3_1 post n6 (x4_1 ||| (0 : Int32)) (x5_1 + (1 : Int32))) ∧ (¬ r6 = 0 → wp_X11_linkedBy_L6 f0_1 f1_1 f2_1 f3_1 post n6 (x4_1 ||| ((1 : Int32) <<< (x5_1 &&& 31))) (x5_1 + (1 : Int32))))))))))))
def wp_X11_linkedBy  (x0 : Int32) (x1 : Int32) (x2 : Int32) (x3 : Int32) (post : Int32 → Prop) : Prop := (∃ q6, wp_X11_linkedBy_L6 x0 x1 x2 x3 post q6 (0 : Int32) (0 : Int32))
set_option maxHeartbeats 4000000 in
set_option maxRecDepth 100000 in
theorem met_X11_linkedBy {Z : Nat → Prop} {A : Nat → Prop} {D : va_G} {D2 : Nat → ClassId} {ad : Nat → Nat} {N : Nat} {T : Nat → Nat × Nat} (l : Launch) {I : KI} {J : KJ} {Q : KQ} {x0 : Int32} {x1 : Int32} {x2 : Int32} {x3 : Int32} {post : Int32 → Prop} (hWF : WF Z N T Q)  (hw : wp_X11_linkedBy x0 x1 x2 x3 post) : Met l yX11_linkedBy (.code yX11_linkedBy cX11_linkedBy 6 (some .int) :: BIG) ({ frames := 1, cells := 0, slots := 0, locals := 21 }) (Pr D D2 A ad N T I J Q [.int x0, .int x1, .int x2, .int x3]) (va_Qi (fun (r : Int32) (u : KS) => post r ∧ u.1 = I ∧ u.2.1 = J ∧ u.2.2 = Q ∧ WF Z N T u.2.2) (Bw D D2 ad N T) A) 0 0 A := by
  refine Met_GG (lv0 := [(0, .int x0), (1, .int x1), (2, .int x2), (3, .int x3)]) (by decide +kernel) [.int x0, .int x1, .int x2, .int x3] (Nat.le_of_ble_eq_true rfl) rfl ?_
  intro p e s m below meth c C hr
  have C : CX p s m [.int x0, .int x1, .int x2, .int x3].toArray meth c cX11_linkedBy 6 RX11 A D D2 := C
  unfold wp_X11_linkedBy at hw
  refine g_iconst (v := (0 : Int32)) C dX11_linkedBy_0 (by decide) ?_
  refine g_istore (lv' := [(4, .int (0 : Int32)), (0, .int x0), (1, .int x1), (2, .int x2), (3, .int x3)]) C dX11_linkedBy_1 (by decide) rfl ?_
  refine g_iconst (v := (0 : Int32)) C dX11_linkedBy_3 (by decide) ?_
  refine g_istore (lv' := [(5, .int (0 : Int32)), (4, .int (0 : Int32)), (0, .int x0), (1, .int x1), (2, .int x2), (3, .int x3)]) C dX11_linkedBy_4 (by decide) rfl ?_
  have L6_u8 : ∀ (n6 : Nat) (x4_1 : Int32) (x5_1 : Int32), wp_X11_linkedBy_L6 x0 x1 x2 x3 post n6 x4_1 x5_1 → WF Z N T Q → GG p l e ({ frames := 1, cells := 0, slots := 0, locals := 21 }) s m [.int x0, .int x1, .int x2, .int x3].toArray below meth c 6 A D D2 0 0 (MQ below (va_Qi (fun (r : Int32) (u : KS) => post r ∧ u.1 = I ∧ u.2.1 = J ∧ u.2.2 = Q ∧ WF Z N T u.2.2) (Bw D D2 ad N T) A) [.int x0, .int x1, .int x2, .int x3].toArray s 0 0 A) ad N T I J Q 6 [(0, .int x0), (1, .int x1), (2, .int x2), (3, .int x3), (4, .int x4_1), (5, .int x5_1)] [] := by
    intro n6
    induction n6 with
    | zero => intro x4_1 x5_1 hw; exact hw.elim
    | succ n6 ih_u8 =>
      intro x4_1 x5_1 hw hWF
      unfold wp_X11_linkedBy_L6 at hw
      refine g_iload C dX11_linkedBy_6 5 rfl ?_
      refine g_iload_n C dX11_linkedBy_8 rfl 2 rfl ?_
      refine g_icmp_ge (tgt := 54) C dX11_linkedBy_9 (by decide) (fun c10 => ?_) (fun c10 => ?_)
      · have hw := hw.1 c10
        refine g_iload C dX11_linkedBy_54 4 rfl ?_
        exact g_iret C dX11_linkedBy_56 hr ⟨hw, rfl, rfl, rfl, hWF⟩
      · have hw := hw.2 c10
        refine g_iload C dX11_linkedBy_12 4 rfl ?_
        refine g_iload C dX11_linkedBy_14 5 rfl ?_
        refine g_iload_n C dX11_linkedBy_16 rfl 1 rfl ?_
        refine g_icmp_eq (tgt := 44) C dX11_linkedBy_17 (by decide) (fun c11 => ?_) (fun c11 => ?_)
        · have hw := hw.1 c11
          refine g_iconst (v := (0 : Int32)) C dX11_linkedBy_44 (by decide) ?_
          refine g_ior C dX11_linkedBy_45 ?_
          refine g_istore (lv' := [(4, .int (x4_1 ||| (0 : Int32))), (0, .int x0), (1, .int x1), (2, .int x2), (3, .int x3), (5, .int x5_1)]) C dX11_linkedBy_46 (by decide) rfl ?_
          refine g_iinc (v := (x5_1 + (1 : Int32))) (lv' := [(5, .int (x5_1 + (1 : Int32))), (4, .int (x4_1 ||| (0 : Int32))), (0, .int x0), (1, .int x1), (2, .int x2), (3, .int x3)]) C dX11_linkedBy_48 (q := 5) rfl rfl (by decide) rfl ?_
          refine g_goto C dX11_linkedBy_51 (tgt := 6) (by decide) ?_
          refine g_sub [2, 3, 4, 5, 1, 0] rfl ?_
          exact ih_u8 (x4_1 ||| (0 : Int32)) (x5_1 + (1 : Int32)) hw hWF
        · have hw := hw.2 c11
          refine g_iload_n C dX11_linkedBy_20 rfl 3 rfl ?_
          refine g_if_ne (tgt := 37) C dX11_linkedBy_21 (by decide) (fun c12 => ?_) (fun c12 => ?_)
          · have hw := hw.1 c12
            refine g_iconst (v := (1 : Int32)) C dX11_linkedBy_37 (by decide) ?_
            refine g_iload C dX11_linkedBy_38 5 rfl ?_
            refine g_ishl C dX11_linkedBy_40 ?_
            refine g_goto C dX11_linkedBy_41 (tgt := 45) (by decide) ?_
            refine g_ior C dX11_linkedBy_45 ?_
            refine g_istore (lv' := [(4, .int (x4_1 ||| ((1 : Int32) <<< (x5_1 &&& 31)))), (0, .int x0), (1, .int x1), (2, .int x2), (3, .int x3), (5, .int x5_1)]) C dX11_linkedBy_46 (by decide) rfl ?_
            refine g_iinc (v := (x5_1 + (1 : Int32))) (lv' := [(5, .int (x5_1 + (1 : Int32))), (4, .int (x4_1 ||| ((1 : Int32) <<< (x5_1 &&& 31)))), (0, .int x0), (1, .int x1), (2, .int x2), (3, .int x3)]) C dX11_linkedBy_48 (q := 5) rfl rfl (by decide) rfl ?_
            refine g_goto C dX11_linkedBy_51 (tgt := 6) (by decide) ?_
            refine g_sub [2, 3, 4, 5, 1, 0] rfl ?_
            exact ih_u8 (x4_1 ||| ((1 : Int32) <<< (x5_1 &&& 31))) (x5_1 + (1 : Int32)) hw hWF
          · have hw := hw.2 c12
            refine g_iload_n C dX11_linkedBy_24 rfl 0 rfl ?_
            refine g_iload C dX11_linkedBy_25 5 rfl ?_
            refine g_iload_n C dX11_linkedBy_27 rfl 1 rfl ?_
            refine g_callSi (As := [.int x5_1, .int x1]) C dX11_linkedBy_28 ft_365 ft_366 (met_X11_linkOf l hWF  hw) ⟨rfl, rfl, Nat.le_of_ble_eq_true rfl, Nat.le_of_ble_eq_true rfl⟩ ⟨Nat.zero_le _, Nat.zero_le _⟩ rfl rfl (Nat.le_of_ble_eq_true rfl) (fun r13 I13 J13 Q13 hp => ?_)
            obtain ⟨hw, eI, eJ, eQ, hWF⟩ := hp
            have eI : I = I13 := Eq.symm eI
            subst eI
            have eJ : J = J13 := Eq.symm eJ
            subst eJ
            have eQ : Q = Q13 := Eq.symm eQ
            subst eQ
            try dsimp only at hw hWF
            refine g_callSi (As := [.int x0, .int r13]) C dX11_linkedBy_31 ft_381 ft_382 (met_X11_has l hWF  hw) ⟨rfl, rfl, Nat.le_of_ble_eq_true rfl, Nat.le_of_ble_eq_true rfl⟩ ⟨Nat.zero_le _, Nat.zero_le _⟩ rfl rfl (Nat.le_of_ble_eq_true rfl) (fun r14 I14 J14 Q14 hp => ?_)
            obtain ⟨hw, eI, eJ, eQ, hWF⟩ := hp
            have eI : I = I14 := Eq.symm eI
            subst eI
            have eJ : J = J14 := Eq.symm eJ
            subst eJ
            have eQ : Q = Q14 := Eq.symm eQ
            subst eQ
            try dsimp only at hw hWF
            refine g_if_eq (tgt := 44) C dX11_linkedBy_34 (by decide) (fun c15 => ?_) (fun c15 => ?_)
            · have hw := hw.1 c15
              refine g_iconst (v := (0 : Int32)) C dX11_linkedBy_44 (by decide) ?_
              refine g_ior C dX11_linkedBy_45 ?_
              refine g_istore (lv' := [(4, .int (x4_1 ||| (0 : Int32))), (0, .int x0), (1, .int x1), (2, .int x2), (3, .int x3), (5, .int x5_1)]) C dX11_linkedBy_46 (by decide) rfl ?_
              refine g_iinc (v := (x5_1 + (1 : Int32))) (lv' := [(5, .int (x5_1 + (1 : Int32))), (4, .int (x4_1 ||| (0 : Int32))), (0, .int x0), (1, .int x1), (2, .int x2), (3, .int x3)]) C dX11_linkedBy_48 (q := 5) rfl rfl (by decide) rfl ?_
              refine g_goto C dX11_linkedBy_51 (tgt := 6) (by decide) ?_
              refine g_sub [2, 3, 4, 5, 1, 0] rfl ?_
              exact ih_u8 (x4_1 ||| (0 : Int32)) (x5_1 + (1 : Int32)) hw hWF
            · have hw := hw.2 c15
              refine g_iconst (v := (1 : Int32)) C dX11_linkedBy_37 (by decide) ?_
              refine g_iload C dX11_linkedBy_38 5 rfl ?_
              refine g_ishl C dX11_linkedBy_40 ?_
              refine g_goto C dX11_linkedBy_41 (tgt := 45) (by decide) ?_
              refine g_ior C dX11_linkedBy_45 ?_
              refine g_istore (lv' := [(4, .int (x4_1 ||| ((1 : Int32) <<< (x5_1 &&& 31)))), (0, .int x0), (1, .int x1), (2, .int x2), (3, .int x3), (5, .int x5_1)]) C dX11_linkedBy_46 (by decide) rfl ?_
              refine g_iinc (v := (x5_1 + (1 : Int32))) (lv' := [(5, .int (x5_1 + (1 : Int32))), (4, .int (x4_1 ||| ((1 : Int32) <<< (x5_1 &&& 31)))), (0, .int x0), (1, .int x1), (2, .int x2), (3, .int x3)]) C dX11_linkedBy_48 (q := 5) rfl rfl (by decide) rfl ?_
              refine g_goto C dX11_linkedBy_51 (tgt := 6) (by decide) ?_
              refine g_sub [2, 3, 4, 5, 1, 0] rfl ?_
              exact ih_u8 (x4_1 ||| ((1 : Int32) <<< (x5_1 &&& 31))) (x5_1 + (1 : Int32)) hw hWF
  obtain ⟨n_u8, hw⟩ := hw
  refine g_sub [2, 3, 4, 5, 1, 0] rfl ?_
  exact L6_u8 n_u8 (0 : Int32) (0 : Int32) hw hWF
