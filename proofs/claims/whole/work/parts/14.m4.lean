def wp_X9_having_L6 (If_1 : KI) (Qf_1 : KQ) (f0_1 : Nat) (f1_1 : Nat) (f2_1 : Int32) (f3_1 : Int32) (post : Int32 → Prop) : Nat → Int32 → Int32 → Prop
  | 0, _, _ => False
  | n6 + 1, x4_1, x5_1 => (((If_1 f1_1 3) ≤ x5_1 → post x4_1) ∧ (¬ (If_1 f1_1 3) ≤ x5_1 → wp_X10_has f3_1 x5_1 (fun r3 => ((r3 = 0 → wp_X9_having_L6 If_1 Qf_1 f0_1 f1_1 f2_1 f3_1 post n6 (x4_1 + (0 : Int32)) (x5_1 + (1 : Int32))) ∧ (¬ r3 = 0 → (vp_in x5_1 6 ∧ ((¬ (If_1 (rq Qf_1 f0_1 0) x5_1.toNatClampNeg) = f2_1 → wp_X9_having_L6 If_1 Qf_1 f0_1 f1_1 f2_1 f3_1 post n6 (x4_1 + (0 : Int32)) (x5_1 + (1 : Int32))) ∧ ((If_1 (rq Qf_1 f0_1 0) x5_1.toNatClampNeg) = f2_1 → wp_X9_having_L6 If_1 Qf_1 f0_1 f1_1 f2_1 f3_1 post n6 (x4_1 + (1 : Int32)) (x5_1 + (1 : Int32))))))))))
def wp_X9_having (I : KI) (Q : KQ) (h0 : Nat) (h1 : Nat) (x2 : Int32) (x3 : Int32) (post : Int32 → Prop) : Prop := (∃ q6, wp_X9_having_L6 I Q h0 h1 x2 x3 post q6 (0 : Int32) (0 : Int32))
set_option maxHeartbeats 4000000 in
set_option maxRecDepth 100000 in
theorem met_X9_having {Z : Nat → Prop} {A : Nat → Prop} {D : va_G} {D2 : Nat → ClassId} {ad : Nat → Nat} {N : Nat} {T : Nat → Nat × Nat} (l : Launch) {I : KI} {J : KJ} {Q : KQ} {h0 : Nat} {h1 : Nat} {x2 : Int32} {x3 : Int32} {post : Int32 → Prop} (hWF : WF Z N T Q) (z0 : OKr Z N T h0 (9, 0)) (z1 : OKr Z N T h1 (1, 0)) (hw : wp_X9_having I Q h0 h1 x2 x3 post) : Met l yX9_having (.code yX9_having cX9_having 6 (some .int) :: BIG) ({ frames := 1, cells := 0, slots := 0, locals := 21 }) (Pr D D2 A ad N T I J Q [.ref (ad h0), .ref (ad h1), .int x2, .int x3]) (va_Qi (fun (r : Int32) (u : KS) => post r ∧ u.1 = I ∧ u.2.1 = J ∧ u.2.2 = Q ∧ WF Z N T u.2.2) (Bw D D2 ad N T) A) 0 0 A := by
  refine Met_GG (lv0 := [(0, .ref (ad h0)), (1, .ref (ad h1)), (2, .int x2), (3, .int x3)]) (by decide +kernel) [.ref (ad h0), .ref (ad h1), .int x2, .int x3] (Nat.le_of_ble_eq_true rfl) rfl ?_
  intro p e s m below meth c C hr
  have C : CX p s m [.ref (ad h0), .ref (ad h1), .int x2, .int x3].toArray meth c cX9_having 6 RX9 A D D2 := C
  unfold wp_X9_having at hw
  refine g_iconst (v := (0 : Int32)) C dX9_having_0 (by decide) ?_
  refine g_istore (lv' := [(4, .int (0 : Int32)), (0, .ref (ad h0)), (1, .ref (ad h1)), (2, .int x2), (3, .int x3)]) C dX9_having_1 (by decide) rfl ?_
  refine g_iconst (v := (0 : Int32)) C dX9_having_3 (by decide) ?_
  refine g_istore (lv' := [(5, .int (0 : Int32)), (4, .int (0 : Int32)), (0, .ref (ad h0)), (1, .ref (ad h1)), (2, .int x2), (3, .int x3)]) C dX9_having_4 (by decide) rfl ?_
  have L6_u7 : ∀ (n6 : Nat) (x4_1 : Int32) (x5_1 : Int32), wp_X9_having_L6 I Q h0 h1 x2 x3 post n6 x4_1 x5_1 → WF Z N T Q → GG p l e ({ frames := 1, cells := 0, slots := 0, locals := 21 }) s m [.ref (ad h0), .ref (ad h1), .int x2, .int x3].toArray below meth c 6 A D D2 0 0 (MQ below (va_Qi (fun (r : Int32) (u : KS) => post r ∧ u.1 = I ∧ u.2.1 = J ∧ u.2.2 = Q ∧ WF Z N T u.2.2) (Bw D D2 ad N T) A) [.ref (ad h0), .ref (ad h1), .int x2, .int x3].toArray s 0 0 A) ad N T I J Q 6 [(0, .ref (ad h0)), (1, .ref (ad h1)), (2, .int x2), (3, .int x3), (4, .int x4_1), (5, .int x5_1)] [] := by
    intro n6
    induction n6 with
    | zero => intro x4_1 x5_1 hw; exact hw.elim
    | succ n6 ih_u7 =>
      intro x4_1 x5_1 hw hWF
      unfold wp_X9_having_L6 at hw
      refine g_iload C dX9_having_6 5 rfl ?_
      refine g_aload_n C dX9_having_8 rfl 1 rfl ?_
      refine g_getI C dX9_having_9 ft_199 z1 ?_
      refine g_icmp_ge (tgt := 51) C dX9_having_12 (by decide) (fun c9 => ?_) (fun c9 => ?_)
      · have hw := hw.1 c9
        refine g_iload C dX9_having_51 4 rfl ?_
        exact g_iret C dX9_having_53 hr ⟨hw, rfl, rfl, rfl, hWF⟩
      · have hw := hw.2 c9
        refine g_iload C dX9_having_15 4 rfl ?_
        refine g_iload_n C dX9_having_17 rfl 3 rfl ?_
        refine g_iload C dX9_having_18 5 rfl ?_
        refine g_callSNi (As := [.int x3, .int x5_1]) C dX9_having_20 ft_202 ft_17 (met_X10_has l hWF  hw) ⟨rfl, rfl, Nat.le_of_ble_eq_true rfl, Nat.le_of_ble_eq_true rfl⟩ ⟨Nat.zero_le _, Nat.zero_le _⟩ rfl rfl (Nat.le_of_ble_eq_true rfl) (fun r10 I10 J10 Q10 hp => ?_)
        obtain ⟨hw, eI, eJ, eQ, hWF⟩ := hp
        have eI : I = I10 := Eq.symm eI
        subst eI
        have eJ : J = J10 := Eq.symm eJ
        subst eJ
        have eQ : Q = Q10 := Eq.symm eQ
        subst eQ
        try dsimp only at hw hWF
        refine g_if_eq (tgt := 41) C dX9_having_23 (by decide) (fun c11 => ?_) (fun c11 => ?_)
        · have hw := hw.1 c11
          refine g_iconst (v := (0 : Int32)) C dX9_having_41 (by decide) ?_
          refine g_iadd C dX9_having_42 ?_
          refine g_istore (lv' := [(4, .int (x4_1 + (0 : Int32))), (0, .ref (ad h0)), (1, .ref (ad h1)), (2, .int x2), (3, .int x3), (5, .int x5_1)]) C dX9_having_43 (by decide) rfl ?_
          refine g_iinc (v := (x5_1 + (1 : Int32))) (lv' := [(5, .int (x5_1 + (1 : Int32))), (4, .int (x4_1 + (0 : Int32))), (0, .ref (ad h0)), (1, .ref (ad h1)), (2, .int x2), (3, .int x3)]) C dX9_having_45 (q := 5) rfl rfl (by decide) rfl ?_
          refine g_goto C dX9_having_48 (tgt := 6) (by decide) ?_
          refine g_sub [2, 3, 4, 5, 1, 0] rfl ?_
          exact ih_u7 (x4_1 + (0 : Int32)) (x5_1 + (1 : Int32)) hw hWF
        · have hw := hw.2 c11
          refine g_aload_n C dX9_having_26 rfl 0 rfl ?_
          refine g_getQ C dX9_having_27 ft_200 z0 (hWF.q z0 0 rfl) ?_
          have zz12 := hWF.r z0 0 rfl
          refine g_iload C dX9_having_30 5 rfl ?_
          refine g_iald C dX9_having_32 zz12 hw.1 ?_
          have hw := hw.2
          refine g_iload_n C dX9_having_33 rfl 2 rfl ?_
          refine g_icmp_ne (tgt := 41) C dX9_having_34 (by decide) (fun c13 => ?_) (fun c13 => ?_)
          · have hw := hw.1 c13
            refine g_iconst (v := (0 : Int32)) C dX9_having_41 (by decide) ?_
            refine g_iadd C dX9_having_42 ?_
            refine g_istore (lv' := [(4, .int (x4_1 + (0 : Int32))), (0, .ref (ad h0)), (1, .ref (ad h1)), (2, .int x2), (3, .int x3), (5, .int x5_1)]) C dX9_having_43 (by decide) rfl ?_
            refine g_iinc (v := (x5_1 + (1 : Int32))) (lv' := [(5, .int (x5_1 + (1 : Int32))), (4, .int (x4_1 + (0 : Int32))), (0, .ref (ad h0)), (1, .ref (ad h1)), (2, .int x2), (3, .int x3)]) C dX9_having_45 (q := 5) rfl rfl (by decide) rfl ?_
            refine g_goto C dX9_having_48 (tgt := 6) (by decide) ?_
            refine g_sub [2, 3, 4, 5, 1, 0] rfl ?_
            exact ih_u7 (x4_1 + (0 : Int32)) (x5_1 + (1 : Int32)) hw hWF
          · have hw := hw.2 c13
            refine g_iconst (v := (1 : Int32)) C dX9_having_37 (by decide) ?_
            refine g_goto C dX9_having_38 (tgt := 42) (by decide) ?_
            refine g_iadd C dX9_having_42 ?_
            refine g_istore (lv' := [(4, .int (x4_1 + (1 : Int32))), (0, .ref (ad h0)), (1, .ref (ad h1)), (2, .int x2), (3, .int x3), (5, .int x5_1)]) C dX9_having_43 (by decide) rfl ?_
            refine g_iinc (v := (x5_1 + (1 : Int32))) (lv' := [(5, .int (x5_1 + (1 : Int32))), (4, .int (x4_1 + (1 : Int32))), (0, .ref (ad h0)), (1, .ref (ad h1)), (2, .int x2), (3, .int x3)]) C dX9_having_45 (q := 5) rfl rfl (by decide) rfl ?_
            refine g_goto C dX9_having_48 (tgt := 6) (by decide) ?_
            refine g_sub [2, 3, 4, 5, 1, 0] rfl ?_
            exact ih_u7 (x4_1 + (1 : Int32)) (x5_1 + (1 : Int32)) hw hWF
  obtain ⟨n_u7, hw⟩ := hw
  refine g_sub [2, 3, 4, 5, 1, 0] rfl ?_
  exact L6_u7 n_u7 (0 : Int32) (0 : Int32) hw hWF
def wp_X9_seeAlike_L3 (If_1 : KI) (Qf_1 : KQ) (f0_1 : Nat) (f1_1 : Nat) (f2_1 : Int32) (f3_1 : Int32) (post : Int32 → Prop) : Nat → Int32 → Prop
  | 0, _ => False
  | n3 + 1, x4_1 => (((If_1 f1_1 3) ≤ x4_1 → post (1 : Int32)) ∧ (¬ (If_1 f1_1 3) ≤ x4_1 → wp_X9_having If_1 Qf_1 f0_1 f1_1 x4_1 f2_1 (fun r3 => wp_X9_having If_1 Qf_1 f0_1 f1_1 x4_1 f3_1 (fun r4 => ((r3 = r4 → wp_X9_seeAlike_L3 If_1 Qf_1 f0_1 f1_1 f2_1 f3_1 post n3 (x4_1 + (1 : Int32))) ∧ (¬ r3 = r4 → post (0 : Int32)))))))
def wp_X9_seeAlike (I : KI) (Q : KQ) (h0 : Nat) (h1 : Nat) (x2 : Int32) (x3 : Int32) (post : Int32 → Prop) : Prop := (∃ q3, wp_X9_seeAlike_L3 I Q h0 h1 x2 x3 post q3 (0 : Int32))
set_option maxHeartbeats 4000000 in
set_option maxRecDepth 100000 in
theorem met_X9_seeAlike {Z : Nat → Prop} {A : Nat → Prop} {D : va_G} {D2 : Nat → ClassId} {ad : Nat → Nat} {N : Nat} {T : Nat → Nat × Nat} (l : Launch) {I : KI} {J : KJ} {Q : KQ} {h0 : Nat} {h1 : Nat} {x2 : Int32} {x3 : Int32} {post : Int32 → Prop} (hWF : WF Z N T Q) (z0 : OKr Z N T h0 (9, 0)) (z1 : OKr Z N T h1 (1, 0)) (hw : wp_X9_seeAlike I Q h0 h1 x2 x3 post) : Met l yX9_seeAlike (.code yX9_seeAlike cX9_seeAlike 5 (some .boolean) :: BIG) ({ frames := 2, cells := 0, slots := 0, locals := 46 }) (Pr D D2 A ad N T I J Q [.ref (ad h0), .ref (ad h1), .int x2, .int x3]) (va_Qi (fun (r : Int32) (u : KS) => post r ∧ u.1 = I ∧ u.2.1 = J ∧ u.2.2 = Q ∧ WF Z N T u.2.2) (Bw D D2 ad N T) A) 0 0 A := by
  refine Met_GG (lv0 := [(0, .ref (ad h0)), (1, .ref (ad h1)), (2, .int x2), (3, .int x3)]) (by decide +kernel) [.ref (ad h0), .ref (ad h1), .int x2, .int x3] (Nat.le_of_ble_eq_true rfl) rfl ?_
  intro p e s m below meth c C hr
  have C : CX p s m [.ref (ad h0), .ref (ad h1), .int x2, .int x3].toArray meth c cX9_seeAlike 5 RX9 A D D2 := C
  unfold wp_X9_seeAlike at hw
  refine g_iconst (v := (0 : Int32)) C dX9_seeAlike_0 (by decide) ?_
  refine g_istore (lv' := [(4, .int (0 : Int32)), (0, .ref (ad h0)), (1, .ref (ad h1)), (2, .int x2), (3, .int x3)]) C dX9_seeAlike_1 (by decide) rfl ?_
  have L3_u6 : ∀ (n3 : Nat) (x4_1 : Int32), wp_X9_seeAlike_L3 I Q h0 h1 x2 x3 post n3 x4_1 → WF Z N T Q → GG p l e ({ frames := 2, cells := 0, slots := 0, locals := 46 }) s m [.ref (ad h0), .ref (ad h1), .int x2, .int x3].toArray below meth c 5 A D D2 0 0 (MQ below (va_Qi (fun (r : Int32) (u : KS) => post r ∧ u.1 = I ∧ u.2.1 = J ∧ u.2.2 = Q ∧ WF Z N T u.2.2) (Bw D D2 ad N T) A) [.ref (ad h0), .ref (ad h1), .int x2, .int x3].toArray s 0 0 A) ad N T I J Q 3 [(0, .ref (ad h0)), (1, .ref (ad h1)), (2, .int x2), (3, .int x3), (4, .int x4_1)] [] := by
    intro n3
    induction n3 with
    | zero => intro x4_1 hw; exact hw.elim
    | succ n3 ih_u6 =>
      intro x4_1 hw hWF
      unfold wp_X9_seeAlike_L3 at hw
      refine g_iload C dX9_seeAlike_3 4 rfl ?_
      refine g_aload_n C dX9_seeAlike_5 rfl 1 rfl ?_
      refine g_getI C dX9_seeAlike_6 ft_199 z1 ?_
      refine g_icmp_ge (tgt := 39) C dX9_seeAlike_9 (by decide) (fun c8 => ?_) (fun c8 => ?_)
      · have hw := hw.1 c8
        refine g_iconst (v := (1 : Int32)) C dX9_seeAlike_39 (by decide) ?_
        exact g_zret C dX9_seeAlike_40 hr rfl ⟨hw, rfl, rfl, rfl, hWF⟩
      · have hw := hw.2 c8
        refine g_aload_n C dX9_seeAlike_12 rfl 0 rfl ?_
        refine g_aload_n C dX9_seeAlike_13 rfl 1 rfl ?_
        refine g_iload C dX9_seeAlike_14 4 rfl ?_
        refine g_iload_n C dX9_seeAlike_16 rfl 2 rfl ?_
        refine g_callVi (As := [.ref (ad h1), .int x4_1, .int x2]) C dX9_seeAlike_17 ft_205 z0 ft_203 ft_204 (met_X9_having l hWF z0 z1 hw) ⟨rfl, rfl, Nat.le_of_ble_eq_true rfl, Nat.le_of_ble_eq_true rfl⟩ ⟨Nat.zero_le _, Nat.zero_le _⟩ rfl rfl (Nat.le_of_ble_eq_true rfl) (fun r9 I9 J9 Q9 hp => ?_)
        obtain ⟨hw, eI, eJ, eQ, hWF⟩ := hp
        have eI : I = I9 := Eq.symm eI
        subst eI
        have eJ : J = J9 := Eq.symm eJ
        subst eJ
        have eQ : Q = Q9 := Eq.symm eQ
        subst eQ
        try dsimp only at hw hWF
        refine g_aload_n C dX9_seeAlike_20 rfl 0 rfl ?_
        refine g_aload_n C dX9_seeAlike_21 rfl 1 rfl ?_
        refine g_iload C dX9_seeAlike_22 4 rfl ?_
        refine g_iload_n C dX9_seeAlike_24 rfl 3 rfl ?_
        refine g_callVi (As := [.ref (ad h1), .int x4_1, .int x3]) C dX9_seeAlike_25 ft_205 z0 ft_203 ft_204 (met_X9_having l hWF z0 z1 hw) ⟨rfl, rfl, Nat.le_of_ble_eq_true rfl, Nat.le_of_ble_eq_true rfl⟩ ⟨Nat.zero_le _, Nat.zero_le _⟩ rfl rfl (Nat.le_of_ble_eq_true rfl) (fun r10 I10 J10 Q10 hp => ?_)
        obtain ⟨hw, eI, eJ, eQ, hWF⟩ := hp
        have eI : I = I10 := Eq.symm eI
        subst eI
        have eJ : J = J10 := Eq.symm eJ
        subst eJ
        have eQ : Q = Q10 := Eq.symm eQ
        subst eQ
        try dsimp only at hw hWF
        refine g_icmp_eq (tgt := 33) C dX9_seeAlike_28 (by decide) (fun c11 => ?_) (fun c11 => ?_)
        · have hw := hw.1 c11
          refine g_iinc (v := (x4_1 + (1 : Int32))) (lv' := [(4, .int (x4_1 + (1 : Int32))), (0, .ref (ad h0)), (1, .ref (ad h1)), (2, .int x2), (3, .int x3)]) C dX9_seeAlike_33 (q := 4) rfl rfl (by decide) rfl ?_
          refine g_goto C dX9_seeAlike_36 (tgt := 3) (by decide) ?_
          refine g_sub [1, 2, 3, 4, 0] rfl ?_
          exact ih_u6 (x4_1 + (1 : Int32)) hw hWF
        · have hw := hw.2 c11
          refine g_iconst (v := (0 : Int32)) C dX9_seeAlike_31 (by decide) ?_
          exact g_zret C dX9_seeAlike_32 hr rfl ⟨hw, rfl, rfl, rfl, hWF⟩
  obtain ⟨n_u6, hw⟩ := hw
  refine g_sub [1, 2, 3, 4, 0] rfl ?_
  exact L3_u6 n_u6 (0 : Int32) hw hWF
def wp_X9_leastLike_L3 (If_1 : KI) (Qf_1 : KQ) (f0_1 : Nat) (f1_1 : Nat) (f2_1 : Int32) (f3_1 : Int32) (post : Int32 → Prop) : Nat → Int32 → Prop
  | 0, _ => False
  | n3 + 1, x4_1 => ((f3_1 ≤ x4_1 → post f3_1) ∧ (¬ f3_1 ≤ x4_1 → (vp_in x4_1 6 ∧ (vp_in f3_1 6 ∧ ((¬ (If_1 (rq Qf_1 f0_1 0) x4_1.toNatClampNeg) = (If_1 (rq Qf_1 f0_1 0) f3_1.toNatClampNeg) → wp_X9_leastLike_L3 If_1 Qf_1 f0_1 f1_1 f2_1 f3_1 post n3 (x4_1 + (1 : Int32))) ∧ ((If_1 (rq Qf_1 f0_1 0) x4_1.toNatClampNeg) = (If_1 (rq Qf_1 f0_1 0) f3_1.toNatClampNeg) → wp_X1_neighbours If_1 Qf_1 f1_1 f2_1 x4_1 (fun r6 => wp_X1_neighbours If_1 Qf_1 f1_1 f2_1 f3_1 (fun r7 => wp_X9_seeAlike If_1 Qf_1 f0_1 f1_1 r6 r7 (fun r8 => ((r8 = 0 → wp_X9_leastLike_L3 If_1 Qf_1 f0_1 f1_1 f2_1 f3_1 post n3 (x4_1 + (1 : Int32))) ∧ (¬ r8 = 0 → post x4_1)))))))))))
def wp_X9_leastLike (I : KI) (Q : KQ) (h0 : Nat) (h1 : Nat) (x2 : Int32) (x3 : Int32) (post : Int32 → Prop) : Prop := (∃ q3, wp_X9_leastLike_L3 I Q h0 h1 x2 x3 post q3 (0 : Int32))
set_option maxHeartbeats 4000000 in
set_option maxRecDepth 100000 in
theorem met_X9_leastLike {Z : Nat → Prop} {A : Nat → Prop} {D : va_G} {D2 : Nat → ClassId} {ad : Nat → Nat} {N : Nat} {T : Nat → Nat × Nat} (l : Launch) {I : KI} {J : KJ} {Q : KQ} {h0 : Nat} {h1 : Nat} {x2 : Int32} {x3 : Int32} {post : Int32 → Prop} (hWF : WF Z N T Q) (z0 : OKr Z N T h0 (9, 0)) (z1 : OKr Z N T h1 (1, 0)) (hw : wp_X9_leastLike I Q h0 h1 x2 x3 post) : Met l yX9_leastLike (.code yX9_leastLike cX9_leastLike 5 (some .int) :: BIG) ({ frames := 3, cells := 0, slots := 0, locals := 70 }) (Pr D D2 A ad N T I J Q [.ref (ad h0), .ref (ad h1), .int x2, .int x3]) (va_Qi (fun (r : Int32) (u : KS) => post r ∧ u.1 = I ∧ u.2.1 = J ∧ u.2.2 = Q ∧ WF Z N T u.2.2) (Bw D D2 ad N T) A) 0 0 A := by
  refine Met_GG (lv0 := [(0, .ref (ad h0)), (1, .ref (ad h1)), (2, .int x2), (3, .int x3)]) (by decide +kernel) [.ref (ad h0), .ref (ad h1), .int x2, .int x3] (Nat.le_of_ble_eq_true rfl) rfl ?_
  intro p e s m below meth c C hr
  have C : CX p s m [.ref (ad h0), .ref (ad h1), .int x2, .int x3].toArray meth c cX9_leastLike 5 RX9 A D D2 := C
  unfold wp_X9_leastLike at hw
  refine g_iconst (v := (0 : Int32)) C dX9_leastLike_0 (by decide) ?_
  refine g_istore (lv' := [(4, .int (0 : Int32)), (0, .ref (ad h0)), (1, .ref (ad h1)), (2, .int x2), (3, .int x3)]) C dX9_leastLike_1 (by decide) rfl ?_
  have L3_u10 : ∀ (n3 : Nat) (x4_1 : Int32), wp_X9_leastLike_L3 I Q h0 h1 x2 x3 post n3 x4_1 → WF Z N T Q → GG p l e ({ frames := 3, cells := 0, slots := 0, locals := 70 }) s m [.ref (ad h0), .ref (ad h1), .int x2, .int x3].toArray below meth c 5 A D D2 0 0 (MQ below (va_Qi (fun (r : Int32) (u : KS) => post r ∧ u.1 = I ∧ u.2.1 = J ∧ u.2.2 = Q ∧ WF Z N T u.2.2) (Bw D D2 ad N T) A) [.ref (ad h0), .ref (ad h1), .int x2, .int x3].toArray s 0 0 A) ad N T I J Q 3 [(0, .ref (ad h0)), (1, .ref (ad h1)), (2, .int x2), (3, .int x3), (4, .int x4_1)] [] := by
    intro n3
    induction n3 with
    | zero => intro x4_1 hw; exact hw.elim
    | succ n3 ih_u10 =>
      intro x4_1 hw hWF
      unfold wp_X9_leastLike_L3 at hw
      refine g_iload C dX9_leastLike_3 4 rfl ?_
      refine g_iload_n C dX9_leastLike_5 rfl 3 rfl ?_
      refine g_icmp_ge (tgt := 55) C dX9_leastLike_6 (by decide) (fun c12 => ?_) (fun c12 => ?_)
      · have hw := hw.1 c12
        refine g_iload_n C dX9_leastLike_55 rfl 3 rfl ?_
        exact g_iret C dX9_leastLike_56 hr ⟨hw, rfl, rfl, rfl, hWF⟩
      · have hw := hw.2 c12
        refine g_aload_n C dX9_leastLike_9 rfl 0 rfl ?_
        refine g_getQ C dX9_leastLike_10 ft_200 z0 (hWF.q z0 0 rfl) ?_
        have zz13 := hWF.r z0 0 rfl
        refine g_iload C dX9_leastLike_13 4 rfl ?_
        refine g_iald C dX9_leastLike_15 zz13 hw.1 ?_
        have hw := hw.2
        refine g_aload_n C dX9_leastLike_16 rfl 0 rfl ?_
        refine g_getQ C dX9_leastLike_17 ft_200 z0 (hWF.q z0 0 rfl) ?_
        have zz14 := hWF.r z0 0 rfl
        refine g_iload_n C dX9_leastLike_20 rfl 3 rfl ?_
        refine g_iald C dX9_leastLike_21 zz14 hw.1 ?_
        have hw := hw.2
        refine g_icmp_ne (tgt := 49) C dX9_leastLike_22 (by decide) (fun c15 => ?_) (fun c15 => ?_)
        · have hw := hw.1 c15
          refine g_iinc (v := (x4_1 + (1 : Int32))) (lv' := [(4, .int (x4_1 + (1 : Int32))), (0, .ref (ad h0)), (1, .ref (ad h1)), (2, .int x2), (3, .int x3)]) C dX9_leastLike_49 (q := 4) rfl rfl (by decide) rfl ?_
          refine g_goto C dX9_leastLike_52 (tgt := 3) (by decide) ?_
          refine g_sub [1, 2, 3, 4, 0] rfl ?_
          exact ih_u10 (x4_1 + (1 : Int32)) hw hWF
        · have hw := hw.2 c15
          refine g_aload_n C dX9_leastLike_25 rfl 0 rfl ?_
          refine g_aload_n C dX9_leastLike_26 rfl 1 rfl ?_
          refine g_aload_n C dX9_leastLike_27 rfl 1 rfl ?_
          refine g_iload_n C dX9_leastLike_28 rfl 2 rfl ?_
          refine g_iload C dX9_leastLike_29 4 rfl ?_
          refine g_callVi (As := [.int x2, .int x4_1]) C dX9_leastLike_31 ft_46 z1 ft_208 ft_45 (met_X1_neighbours l hWF z1 hw) ⟨rfl, rfl, Nat.le_of_ble_eq_true rfl, Nat.le_of_ble_eq_true rfl⟩ ⟨Nat.zero_le _, Nat.zero_le _⟩ rfl rfl (Nat.le_of_ble_eq_true rfl) (fun r16 I16 J16 Q16 hp => ?_)
          obtain ⟨hw, eI, eJ, eQ, hWF⟩ := hp
          have eI : I = I16 := Eq.symm eI
          subst eI
          have eJ : J = J16 := Eq.symm eJ
          subst eJ
          have eQ : Q = Q16 := Eq.symm eQ
          subst eQ
          try dsimp only at hw hWF
          refine g_aload_n C dX9_leastLike_34 rfl 1 rfl ?_
          refine g_iload_n C dX9_leastLike_35 rfl 2 rfl ?_
          refine g_iload_n C dX9_leastLike_36 rfl 3 rfl ?_
          refine g_callVi (As := [.int x2, .int x3]) C dX9_leastLike_37 ft_46 z1 ft_208 ft_45 (met_X1_neighbours l hWF z1 hw) ⟨rfl, rfl, Nat.le_of_ble_eq_true rfl, Nat.le_of_ble_eq_true rfl⟩ ⟨Nat.zero_le _, Nat.zero_le _⟩ rfl rfl (Nat.le_of_ble_eq_true rfl) (fun r17 I17 J17 Q17 hp => ?_)
          obtain ⟨hw, eI, eJ, eQ, hWF⟩ := hp
          have eI : I = I17 := Eq.symm eI
          subst eI
          have eJ : J = J17 := Eq.symm eJ
          subst eJ
          have eQ : Q = Q17 := Eq.symm eQ
          subst eQ
          try dsimp only at hw hWF
          refine g_callVi (As := [.ref (ad h1), .int r16, .int r17]) C dX9_leastLike_40 ft_205 z0 ft_206 ft_207 (met_X9_seeAlike l hWF z0 z1 hw) ⟨rfl, rfl, Nat.le_of_ble_eq_true rfl, Nat.le_of_ble_eq_true rfl⟩ ⟨Nat.zero_le _, Nat.zero_le _⟩ rfl rfl (Nat.le_of_ble_eq_true rfl) (fun r18 I18 J18 Q18 hp => ?_)
          obtain ⟨hw, eI, eJ, eQ, hWF⟩ := hp
          have eI : I = I18 := Eq.symm eI
          subst eI
          have eJ : J = J18 := Eq.symm eJ
          subst eJ
          have eQ : Q = Q18 := Eq.symm eQ
          subst eQ
          try dsimp only at hw hWF
          refine g_if_eq (tgt := 49) C dX9_leastLike_43 (by decide) (fun c19 => ?_) (fun c19 => ?_)
          · have hw := hw.1 c19
            refine g_iinc (v := (x4_1 + (1 : Int32))) (lv' := [(4, .int (x4_1 + (1 : Int32))), (0, .ref (ad h0)), (1, .ref (ad h1)), (2, .int x2), (3, .int x3)]) C dX9_leastLike_49 (q := 4) rfl rfl (by decide) rfl ?_
            refine g_goto C dX9_leastLike_52 (tgt := 3) (by decide) ?_
            refine g_sub [1, 2, 3, 4, 0] rfl ?_
            exact ih_u10 (x4_1 + (1 : Int32)) hw hWF
          · have hw := hw.2 c19
            refine g_iload C dX9_leastLike_46 4 rfl ?_
            exact g_iret C dX9_leastLike_48 hr ⟨hw, rfl, rfl, rfl, hWF⟩
  obtain ⟨n_u10, hw⟩ := hw
  refine g_sub [1, 2, 3, 4, 0] rfl ?_
  exact L3_u10 n_u10 (0 : Int32) hw hWF
def wp_X9_part_L5 (Qf_1 : KQ) (f0_1 : Nat) (f1_1 : Nat) (f2_1 : Int32) (k58 : KI → Int32 → Prop) : Nat → KI → Int32 → Int32 → Prop
  | 0, _, _, _ => False
  | n5 + 1, I_1, x3_1, x4_1 => (((I_1 f1_1 3) ≤ x4_1 → k58 I_1 x3_1) ∧ (¬ (I_1 f1_1 3) ≤ x4_1 → wp_X9_leastLike I_1 Qf_1 f0_1 f1_1 f2_1 x4_1 (fun r3 => ((¬ r3 = x4_1 → (vp_in r3 6 ∧ (vp_in x4_1 6 ∧ wp_X9_part_L5 Qf_1 f0_1 f1_1 f2_1 k58 n5 (sti I_1 (rq Qf_1 f0_1 1) x4_1.toNatClampNeg (I_1 (rq Qf_1 f0_1 1) r3.toNatClampNeg)) x3_1 (x4_1 + (1 : Int32))))) ∧ (r3 = x4_1 → (vp_in x4_1 6 ∧ wp_X9_part_L5 Qf_1 f0_1 f1_1 f2_1 k58 n5 (sti I_1 (rq Qf_1 f0_1 1) x4_1.toNatClampNeg x3_1) (x3_1 + (1 : Int32)) (x4_1 + (1 : Int32))))))))
def wp_X9_part (I : KI) (Q : KQ) (h0 : Nat) (h1 : Nat) (x2 : Int32) (post : Int32 → KI → Prop) : Prop := (∃ q5, wp_X9_part_L5 Q h0 h1 x2 (fun I_8 x3_8 => (¬ (0 : Int32) < 0 ∧ ¬ (0 : Int32) < 0 ∧ ¬ (I_8 h1 3) < 0 ∧ (0 : Int32).toNatClampNeg + (I_8 h1 3).toNatClampNeg ≤ 6 ∧ (0 : Int32).toNatClampNeg + (I_8 h1 3).toNatClampNeg ≤ 6 ∧ post x3_8 (cpi I_8 (rq Q h0 1) (rq Q h0 0) (0 : Int32).toNatClampNeg (0 : Int32).toNatClampNeg (I_8 h1 3).toNatClampNeg))) q5 I (0 : Int32) (0 : Int32))
set_option maxHeartbeats 4000000 in
set_option maxRecDepth 100000 in
theorem met_X9_part {Z : Nat → Prop} {A : Nat → Prop} {D : va_G} {D2 : Nat → ClassId} {ad : Nat → Nat} {N : Nat} {T : Nat → Nat × Nat} (l : Launch) {I : KI} {J : KJ} {Q : KQ} {h0 : Nat} {h1 : Nat} {x2 : Int32} {post : Int32 → KI → Prop} (hWF : WF Z N T Q) (z0 : OKr Z N T h0 (9, 0)) (z1 : OKr Z N T h1 (1, 0)) (hw : wp_X9_part I Q h0 h1 x2 post) : Met l yX9_part (.code yX9_part cX9_part 6 (some .int) :: BIG) ({ frames := 4, cells := 0, slots := 0, locals := 94 }) (Pr D D2 A ad N T I J Q [.ref (ad h0), .ref (ad h1), .int x2]) (va_Qi (fun (r : Int32) (u : KS) => post r u.1 ∧ u.2.1 = J ∧ u.2.2 = Q ∧ WF Z N T u.2.2) (Bw D D2 ad N T) A) 0 0 A := by
  refine Met_GG (lv0 := [(0, .ref (ad h0)), (1, .ref (ad h1)), (2, .int x2)]) (by decide +kernel) [.ref (ad h0), .ref (ad h1), .int x2] (Nat.le_of_ble_eq_true rfl) rfl ?_
  intro p e s m below meth c C hr
  have C : CX p s m [.ref (ad h0), .ref (ad h1), .int x2].toArray meth c cX9_part 6 RX9 A D D2 := C
  unfold wp_X9_part at hw
  refine g_iconst (v := (0 : Int32)) C dX9_part_0 (by decide) ?_
  refine g_istore_n (lv' := [(3, .int (0 : Int32)), (0, .ref (ad h0)), (1, .ref (ad h1)), (2, .int x2)]) C dX9_part_1 rfl (by decide) rfl ?_
  refine g_iconst (v := (0 : Int32)) C dX9_part_2 (by decide) ?_
  refine g_istore (lv' := [(4, .int (0 : Int32)), (3, .int (0 : Int32)), (0, .ref (ad h0)), (1, .ref (ad h1)), (2, .int x2)]) C dX9_part_3 (by decide) rfl ?_
  have K58_u7 : ∀ (I_8 : KI) (x3_8 : Int32), ((¬ (0 : Int32) < 0 ∧ ¬ (0 : Int32) < 0 ∧ ¬ (I_8 h1 3) < 0 ∧ (0 : Int32).toNatClampNeg + (I_8 h1 3).toNatClampNeg ≤ 6 ∧ (0 : Int32).toNatClampNeg + (I_8 h1 3).toNatClampNeg ≤ 6 ∧ post x3_8 (cpi I_8 (rq Q h0 1) (rq Q h0 0) (0 : Int32).toNatClampNeg (0 : Int32).toNatClampNeg (I_8 h1 3).toNatClampNeg))) → WF Z N T Q → GG p l e ({ frames := 4, cells := 0, slots := 0, locals := 94 }) s m [.ref (ad h0), .ref (ad h1), .int x2].toArray below meth c 6 A D D2 0 0 (MQ below (va_Qi (fun (r : Int32) (u : KS) => post r u.1 ∧ u.2.1 = J ∧ u.2.2 = Q ∧ WF Z N T u.2.2) (Bw D D2 ad N T) A) [.ref (ad h0), .ref (ad h1), .int x2].toArray s 0 0 A) ad N T I_8 J Q 58 [(0, .ref (ad h0)), (1, .ref (ad h1)), (3, .int x3_8)] [] := by
    intro I_8 x3_8 hw hWF
    refine g_aload_n C dX9_part_58 rfl 0 rfl ?_
    refine g_getQ C dX9_part_59 ft_209 z0 (hWF.q z0 1 rfl) ?_
    have zz9 := hWF.r z0 1 rfl
    refine g_iconst (v := (0 : Int32)) C dX9_part_62 (by decide) ?_
    refine g_aload_n C dX9_part_63 rfl 0 rfl ?_
    refine g_getQ C dX9_part_64 ft_200 z0 (hWF.q z0 0 rfl) ?_
    have zz10 := hWF.r z0 0 rfl
    refine g_iconst (v := (0 : Int32)) C dX9_part_67 (by decide) ?_
    refine g_aload_n C dX9_part_68 rfl 1 rfl ?_
    refine g_getI C dX9_part_69 ft_199 z1 ?_
    refine g_copyI C dX9_part_72 ft_212 zz9 zz10 hw.1 hw.2.1 hw.2.2.1 hw.2.2.2.1 hw.2.2.2.2.1 (by decide) (by decide +kernel) ?_
    have hw := hw.2.2.2.2.2
    refine g_iload_n C dX9_part_75 rfl 2 rfl ?_
    exact g_iret C dX9_part_76 hr ⟨hw, rfl, rfl, hWF⟩
  have L5_u7 : ∀ (n5 : Nat) (I_1 : KI) (x3_1 : Int32) (x4_1 : Int32), wp_X9_part_L5 Q h0 h1 x2 (fun I_8 x3_8 => (¬ (0 : Int32) < 0 ∧ ¬ (0 : Int32) < 0 ∧ ¬ (I_8 h1 3) < 0 ∧ (0 : Int32).toNatClampNeg + (I_8 h1 3).toNatClampNeg ≤ 6 ∧ (0 : Int32).toNatClampNeg + (I_8 h1 3).toNatClampNeg ≤ 6 ∧ post x3_8 (cpi I_8 (rq Q h0 1) (rq Q h0 0) (0 : Int32).toNatClampNeg (0 : Int32).toNatClampNeg (I_8 h1 3).toNatClampNeg))) n5 I_1 x3_1 x4_1 → WF Z N T Q → GG p l e ({ frames := 4, cells := 0, slots := 0, locals := 94 }) s m [.ref (ad h0), .ref (ad h1), .int x2].toArray below meth c 6 A D D2 0 0 (MQ below (va_Qi (fun (r : Int32) (u : KS) => post r u.1 ∧ u.2.1 = J ∧ u.2.2 = Q ∧ WF Z N T u.2.2) (Bw D D2 ad N T) A) [.ref (ad h0), .ref (ad h1), .int x2].toArray s 0 0 A) ad N T I_1 J Q 5 [(0, .ref (ad h0)), (1, .ref (ad h1)), (2, .int x2), (3, .int x3_1), (4, .int x4_1)] [] := by
    intro n5
    induction n5 with
    | zero => intro I_1 x3_1 x4_1 hw; exact hw.elim
    | succ n5 ih_u7 =>
      intro I_1 x3_1 x4_1 hw hWF
      unfold wp_X9_part_L5 at hw
      refine g_iload C dX9_part_5 4 rfl ?_
      refine g_aload_n C dX9_part_7 rfl 1 rfl ?_
      refine g_getI C dX9_part_8 ft_199 z1 ?_
      refine g_icmp_ge (tgt := 58) C dX9_part_11 (by decide) (fun c12 => ?_) (fun c12 => ?_)
      · have hw := hw.1 c12
        refine g_sub [0, 1, 3] rfl ?_
        exact K58_u7 I_1 x3_1 hw hWF
      · have hw := hw.2 c12
        refine g_aload_n C dX9_part_14 rfl 0 rfl ?_
        refine g_aload_n C dX9_part_15 rfl 1 rfl ?_
        refine g_iload_n C dX9_part_16 rfl 2 rfl ?_
        refine g_iload C dX9_part_17 4 rfl ?_
        refine g_callVi (As := [.ref (ad h1), .int x2, .int x4_1]) C dX9_part_19 ft_205 z0 ft_210 ft_211 (met_X9_leastLike l hWF z0 z1 hw) ⟨rfl, rfl, Nat.le_of_ble_eq_true rfl, Nat.le_of_ble_eq_true rfl⟩ ⟨Nat.zero_le _, Nat.zero_le _⟩ rfl rfl (Nat.le_of_ble_eq_true rfl) (fun r13 I13 J13 Q13 hp => ?_)
        obtain ⟨hw, eI, eJ, eQ, hWF⟩ := hp
        have eI : I_1 = I13 := Eq.symm eI
        subst eI
        have eJ : J = J13 := Eq.symm eJ
        subst eJ
        have eQ : Q = Q13 := Eq.symm eQ
        subst eQ
        try dsimp only at hw hWF
        refine g_istore (lv' := [(5, .int r13), (0, .ref (ad h0)), (1, .ref (ad h1)), (2, .int x2), (3, .int x3_1), (4, .int x4_1)]) C dX9_part_22 (by decide) rfl ?_
        refine g_aload_n C dX9_part_24 rfl 1 rfl ?_
        refine g_getQ C dX9_part_25 ft_209 z0 (hWF.q z0 1 rfl) ?_
        have zz14 := hWF.r z0 1 rfl
        refine g_iload C dX9_part_28 5 rfl ?_
        refine g_iload C dX9_part_30 0 rfl ?_
        refine g_iload C dX9_part_32 5 rfl ?_
        refine g_icmp_ne (tgt := 44) C dX9_part_34 (by decide) (fun c15 => ?_) (fun c15 => ?_)
        · have hw := hw.1 c15
          refine g_aload_n C dX9_part_44 rfl 1 rfl ?_
          refine g_getQ C dX9_part_45 ft_209 z0 (hWF.q z0 1 rfl) ?_
          have zz16 := hWF.r z0 1 rfl
          refine g_iload C dX9_part_48 0 rfl ?_
          refine g_iald C dX9_part_50 zz16 hw.1 ?_
          have hw := hw.2
          refine g_iast C dX9_part_51 zz14 hw.1 ?_
          have hw := hw.2
          refine g_iinc (v := (x4_1 + (1 : Int32))) (lv' := [(4, .int (x4_1 + (1 : Int32))), (5, .int r13), (0, .ref (ad h0)), (1, .ref (ad h1)), (2, .int x2), (3, .int x3_1)]) C dX9_part_52 (q := 5) rfl rfl (by decide) rfl ?_
          refine g_goto C dX9_part_55 (tgt := 5) (by decide) ?_
          refine g_sub [2, 3, 4, 5, 0] rfl ?_
          exact ih_u7 (sti I_1 (rq Q h0 1) x4_1.toNatClampNeg (I_1 (rq Q h0 1) r13.toNatClampNeg)) x3_1 (x4_1 + (1 : Int32)) hw hWF
        · have hw := hw.2 c15
          refine g_iload_n C dX9_part_37 rfl 4 rfl ?_
          refine g_iinc (v := (x3_1 + (1 : Int32))) (lv' := [(3, .int (x3_1 + (1 : Int32))), (5, .int r13), (0, .ref (ad h0)), (1, .ref (ad h1)), (2, .int x2), (4, .int x4_1)]) C dX9_part_38 (q := 4) rfl rfl (by decide) rfl ?_
          refine g_goto C dX9_part_41 (tgt := 51) (by decide) ?_
          refine g_iast C dX9_part_51 zz14 hw.1 ?_
          have hw := hw.2
          refine g_iinc (v := (x4_1 + (1 : Int32))) (lv' := [(4, .int (x4_1 + (1 : Int32))), (3, .int (x3_1 + (1 : Int32))), (5, .int r13), (0, .ref (ad h0)), (1, .ref (ad h1)), (2, .int x2)]) C dX9_part_52 (q := 5) rfl rfl (by decide) rfl ?_
          refine g_goto C dX9_part_55 (tgt := 5) (by decide) ?_
          refine g_sub [3, 4, 5, 1, 0] rfl ?_
          exact ih_u7 (sti I_1 (rq Q h0 1) x4_1.toNatClampNeg x3_1) (x3_1 + (1 : Int32)) (x4_1 + (1 : Int32)) hw hWF
  obtain ⟨n_u7, hw⟩ := hw
  refine g_sub [2, 3, 4, 1, 0] rfl ?_
  exact L5_u7 n_u7 I (0 : Int32) (0 : Int32) hw hWF
def wp_X9_behind_L2 (Qf_1 : KQ) (f0_1 : Nat) (f1_1 : Nat) (k31 : KI → Prop) : Nat → KI → Int32 → Prop
  | 0, _, _ => False
  | n2 + 1, I_1, x3_1 => (((I_1 f1_1 3) ≤ x3_1 → k31 I_1) ∧ (¬ (I_1 f1_1 3) ≤ x3_1 → ((¬ x3_1 = 0 → (vp_in x3_1 6 ∧ wp_X9_behind_L2 Qf_1 f0_1 f1_1 k31 n2 (sti I_1 (rq Qf_1 f0_1 0) x3_1.toNatClampNeg (1 : Int32)) (x3_1 + (1 : Int32)))) ∧ (x3_1 = 0 → (vp_in x3_1 6 ∧ wp_X9_behind_L2 Qf_1 f0_1 f1_1 k31 n2 (sti I_1 (rq Qf_1 f0_1 0) x3_1.toNatClampNeg (0 : Int32)) (x3_1 + (1 : Int32)))))))
def wp_X9_behind_L36 (Qf_7 : KQ) (f0_7 : Nat) (f1_7 : Nat) (f2_7 : Int32) (post : Int32 → KI → Prop) : Nat → KI → Int32 → Int32 → Prop
  | 0, _, _, _ => False
  | n36 + 1, I_7, x3_7, x4_7 => ((f2_7 ≤ x4_7 → post x3_7 I_7) ∧ (¬ f2_7 ≤ x4_7 → wp_X9_part I_7 Qf_7 f0_7 f1_7 ((I_7 f1_7 7) + x4_7) (fun r9 I9 => wp_X9_behind_L36 Qf_7 f0_7 f1_7 f2_7 post n36 I9 r9 (x4_7 + (1 : Int32)))))
def wp_X9_behind (I : KI) (Q : KQ) (h0 : Nat) (h1 : Nat) (x2 : Int32) (post : Int32 → KI → Prop) : Prop := (∃ q2, wp_X9_behind_L2 Q h0 h1 (fun I_6 => (∃ q36, wp_X9_behind_L36 Q h0 h1 x2 post q36 I_6 (2 : Int32) (0 : Int32))) q2 I (0 : Int32))
set_option maxHeartbeats 4000000 in
set_option maxRecDepth 100000 in
theorem met_X9_behind {Z : Nat → Prop} {A : Nat → Prop} {D : va_G} {D2 : Nat → ClassId} {ad : Nat → Nat} {N : Nat} {T : Nat → Nat × Nat} (l : Launch) {I : KI} {J : KJ} {Q : KQ} {h0 : Nat} {h1 : Nat} {x2 : Int32} {post : Int32 → KI → Prop} (hWF : WF Z N T Q) (z0 : OKr Z N T h0 (9, 0)) (z1 : OKr Z N T h1 (1, 0)) (hw : wp_X9_behind I Q h0 h1 x2 post) : Met l yX9_behind (.code yX9_behind cX9_behind 5 (some .int) :: BIG) ({ frames := 5, cells := 0, slots := 0, locals := 119 }) (Pr D D2 A ad N T I J Q [.ref (ad h0), .ref (ad h1), .int x2]) (va_Qi (fun (r : Int32) (u : KS) => post r u.1 ∧ u.2.1 = J ∧ u.2.2 = Q ∧ WF Z N T u.2.2) (Bw D D2 ad N T) A) 0 0 A := by
  refine Met_GG (lv0 := [(0, .ref (ad h0)), (1, .ref (ad h1)), (2, .int x2)]) (by decide +kernel) [.ref (ad h0), .ref (ad h1), .int x2] (Nat.le_of_ble_eq_true rfl) rfl ?_
  intro p e s m below meth c C hr
  have C : CX p s m [.ref (ad h0), .ref (ad h1), .int x2].toArray meth c cX9_behind 5 RX9 A D D2 := C
  unfold wp_X9_behind at hw
  refine g_iconst (v := (0 : Int32)) C dX9_behind_0 (by decide) ?_
  refine g_istore_n (lv' := [(3, .int (0 : Int32)), (0, .ref (ad h0)), (1, .ref (ad h1)), (2, .int x2)]) C dX9_behind_1 rfl (by decide) rfl ?_
  have K31_u5 : ∀ (I_6 : KI), ((∃ q36, wp_X9_behind_L36 Q h0 h1 x2 post q36 I_6 (2 : Int32) (0 : Int32))) → WF Z N T Q → GG p l e ({ frames := 5, cells := 0, slots := 0, locals := 119 }) s m [.ref (ad h0), .ref (ad h1), .int x2].toArray below meth c 5 A D D2 0 0 (MQ below (va_Qi (fun (r : Int32) (u : KS) => post r u.1 ∧ u.2.1 = J ∧ u.2.2 = Q ∧ WF Z N T u.2.2) (Bw D D2 ad N T) A) [.ref (ad h0), .ref (ad h1), .int x2].toArray s 0 0 A) ad N T I_6 J Q 31 [(0, .ref (ad h0)), (1, .ref (ad h1)), (2, .int x2)] [] := by
    intro I_6 hw hWF
    refine g_iconst (v := (2 : Int32)) C dX9_behind_31 (by decide) ?_
    refine g_istore_n (lv' := [(3, .int (2 : Int32)), (0, .ref (ad h0)), (1, .ref (ad h1)), (2, .int x2)]) C dX9_behind_32 rfl (by decide) rfl ?_
    refine g_iconst (v := (0 : Int32)) C dX9_behind_33 (by decide) ?_
    refine g_istore (lv' := [(4, .int (0 : Int32)), (3, .int (2 : Int32)), (0, .ref (ad h0)), (1, .ref (ad h1)), (2, .int x2)]) C dX9_behind_34 (by decide) rfl ?_
    have L36_u10 : ∀ (n36 : Nat) (I_7 : KI) (x3_7 : Int32) (x4_7 : Int32), wp_X9_behind_L36 Q h0 h1 x2 post n36 I_7 x3_7 x4_7 → WF Z N T Q → GG p l e ({ frames := 5, cells := 0, slots := 0, locals := 119 }) s m [.ref (ad h0), .ref (ad h1), .int x2].toArray below meth c 5 A D D2 0 0 (MQ below (va_Qi (fun (r : Int32) (u : KS) => post r u.1 ∧ u.2.1 = J ∧ u.2.2 = Q ∧ WF Z N T u.2.2) (Bw D D2 ad N T) A) [.ref (ad h0), .ref (ad h1), .int x2].toArray s 0 0 A) ad N T I_7 J Q 36 [(0, .ref (ad h0)), (1, .ref (ad h1)), (2, .int x2), (3, .int x3_7), (4, .int x4_7)] [] := by
      intro n36
      induction n36 with
      | zero => intro I_7 x3_7 x4_7 hw; exact hw.elim
      | succ n36 ih_u10 =>
        intro I_7 x3_7 x4_7 hw hWF
        unfold wp_X9_behind_L36 at hw
        refine g_iload C dX9_behind_36 4 rfl ?_
        refine g_iload_n C dX9_behind_38 rfl 2 rfl ?_
        refine g_icmp_ge (tgt := 61) C dX9_behind_39 (by decide) (fun c12 => ?_) (fun c12 => ?_)
        · have hw := hw.1 c12
          refine g_iload_n C dX9_behind_61 rfl 3 rfl ?_
          exact g_iret C dX9_behind_62 hr ⟨hw, rfl, rfl, hWF⟩
        · have hw := hw.2 c12
          refine g_aload_n C dX9_behind_42 rfl 0 rfl ?_
          refine g_aload_n C dX9_behind_43 rfl 1 rfl ?_
          refine g_aload_n C dX9_behind_44 rfl 1 rfl ?_
          refine g_getI C dX9_behind_45 ft_213 z1 ?_
          refine g_iload C dX9_behind_48 4 rfl ?_
          refine g_iadd C dX9_behind_50 ?_
          refine g_callVi (As := [.ref (ad h1), .int ((I_7 h1 7) + x4_7)]) C dX9_behind_51 ft_205 z0 ft_214 ft_215 (met_X9_part l hWF z0 z1 hw) ⟨rfl, rfl, Nat.le_of_ble_eq_true rfl, Nat.le_of_ble_eq_true rfl⟩ ⟨Nat.zero_le _, Nat.zero_le _⟩ rfl rfl (Nat.le_of_ble_eq_true rfl) (fun r13 I13 J13 Q13 hp => ?_)
          obtain ⟨hw, eJ, eQ, hWF⟩ := hp
          have eJ : J = J13 := Eq.symm eJ
          subst eJ
          have eQ : Q = Q13 := Eq.symm eQ
          subst eQ
          try dsimp only at hw hWF
          refine g_istore_n (lv' := [(3, .int r13), (0, .ref (ad h0)), (1, .ref (ad h1)), (2, .int x2), (4, .int x4_7)]) C dX9_behind_54 rfl (by decide) rfl ?_
          refine g_iinc (v := (x4_7 + (1 : Int32))) (lv' := [(4, .int (x4_7 + (1 : Int32))), (3, .int r13), (0, .ref (ad h0)), (1, .ref (ad h1)), (2, .int x2)]) C dX9_behind_55 (q := 4) rfl rfl (by decide) rfl ?_
          refine g_goto C dX9_behind_58 (tgt := 36) (by decide) ?_
          refine g_sub [2, 3, 4, 1, 0] rfl ?_
          exact ih_u10 I13 r13 (x4_7 + (1 : Int32)) hw hWF
    obtain ⟨n_u10, hw⟩ := hw
    refine g_sub [2, 3, 4, 1, 0] rfl ?_
    exact L36_u10 n_u10 I_6 (2 : Int32) (0 : Int32) hw hWF
  have L2_u5 : ∀ (n2 : Nat) (I_1 : KI) (x3_1 : Int32), wp_X9_behind_L2 Q h0 h1 (fun I_6 => (∃ q36, wp_X9_behind_L36 Q h0 h1 x2 post q36 I_6 (2 : Int32) (0 : Int32))) n2 I_1 x3_1 → WF Z N T Q → GG p l e ({ frames := 5, cells := 0, slots := 0, locals := 119 }) s m [.ref (ad h0), .ref (ad h1), .int x2].toArray below meth c 5 A D D2 0 0 (MQ below (va_Qi (fun (r : Int32) (u : KS) => post r u.1 ∧ u.2.1 = J ∧ u.2.2 = Q ∧ WF Z N T u.2.2) (Bw D D2 ad N T) A) [.ref (ad h0), .ref (ad h1), .int x2].toArray s 0 0 A) ad N T I_1 J Q 2 [(0, .ref (ad h0)), (1, .ref (ad h1)), (2, .int x2), (3, .int x3_1)] [] := by
    intro n2
    induction n2 with
    | zero => intro I_1 x3_1 hw; exact hw.elim
    | succ n2 ih_u5 =>
      intro I_1 x3_1 hw hWF
      unfold wp_X9_behind_L2 at hw
      refine g_iload_n C dX9_behind_2 rfl 3 rfl ?_
      refine g_aload_n C dX9_behind_3 rfl 1 rfl ?_
      refine g_getI C dX9_behind_4 ft_199 z1 ?_
      refine g_icmp_ge (tgt := 31) C dX9_behind_7 (by decide) (fun c15 => ?_) (fun c15 => ?_)
      · have hw := hw.1 c15
        refine g_sub [0, 1, 2] rfl ?_
        exact K31_u5 I_1 hw hWF
      · have hw := hw.2 c15
        refine g_aload_n C dX9_behind_10 rfl 0 rfl ?_
        refine g_getQ C dX9_behind_11 ft_200 z0 (hWF.q z0 0 rfl) ?_
        have zz16 := hWF.r z0 0 rfl
        refine g_iload_n C dX9_behind_14 rfl 3 rfl ?_
        refine g_iload_n C dX9_behind_15 rfl 3 rfl ?_
        refine g_if_ne (tgt := 23) C dX9_behind_16 (by decide) (fun c17 => ?_) (fun c17 => ?_)
        · have hw := hw.1 c17
          refine g_iconst (v := (1 : Int32)) C dX9_behind_23 (by decide) ?_
          refine g_iast C dX9_behind_24 zz16 hw.1 ?_
          have hw := hw.2
          refine g_iinc (v := (x3_1 + (1 : Int32))) (lv' := [(3, .int (x3_1 + (1 : Int32))), (0, .ref (ad h0)), (1, .ref (ad h1)), (2, .int x2)]) C dX9_behind_25 (q := 3) rfl rfl (by decide) rfl ?_
          refine g_goto C dX9_behind_28 (tgt := 2) (by decide) ?_
          refine g_sub [1, 2, 3, 0] rfl ?_
          exact ih_u5 (sti I_1 (rq Q h0 0) x3_1.toNatClampNeg (1 : Int32)) (x3_1 + (1 : Int32)) hw hWF
        · have hw := hw.2 c17
          refine g_iconst (v := (0 : Int32)) C dX9_behind_19 (by decide) ?_
          refine g_goto C dX9_behind_20 (tgt := 24) (by decide) ?_
          refine g_iast C dX9_behind_24 zz16 hw.1 ?_
          have hw := hw.2
          refine g_iinc (v := (x3_1 + (1 : Int32))) (lv' := [(3, .int (x3_1 + (1 : Int32))), (0, .ref (ad h0)), (1, .ref (ad h1)), (2, .int x2)]) C dX9_behind_25 (q := 3) rfl rfl (by decide) rfl ?_
          refine g_goto C dX9_behind_28 (tgt := 2) (by decide) ?_
          refine g_sub [1, 2, 3, 0] rfl ?_
          exact ih_u5 (sti I_1 (rq Q h0 0) x3_1.toNatClampNeg (0 : Int32)) (x3_1 + (1 : Int32)) hw hWF
  obtain ⟨n_u5, hw⟩ := hw
  refine g_sub [1, 2, 3, 0] rfl ?_
  exact L2_u5 n_u5 I (0 : Int32) hw hWF
def wp_X10_put (I : KI) (Q : KQ) (h0 : Nat) (x1 : Int32) (x2 : Int32) (post : Int32 → KI → KQ → Prop) : Prop := wp_X1_hasNode I (rq Q h0 0) x1 (fun r2 => ((r2 = 0 → post (-1 : Int32) I Q) ∧ (¬ r2 = 0 → wp_X1_isSum I (rq Q h0 0) x2 (fun r5 => ((r5 = 0 → post (-1 : Int32) I Q) ∧ (¬ r5 = 0 → ((¬ x2 = 0 → (vp_in x1 6 ∧ wp_X7_rest I Q (rq Q (rq Q (rq Q h0 0) 1) x1.toNatClampNeg) x2 (fun r11 => ((¬ r11 = 0 → wp_X3_keep I Q (rq Q h0 1) (rq Q h0 0) (fun I15 Q15 => (vp_in x1 6 ∧ wp_X7_add I15 Q15 (rq Q15 (rq Q15 (rq Q15 h0 0) 1) x1.toNatClampNeg) x2 (fun r19 I19 => (vp_in x1 6 ∧ wp_X7_rank I19 Q15 (rq Q15 (rq Q15 (rq Q15 h0 0) 1) x1.toNatClampNeg) (fun r23 => post r23 I19 Q15)))))) ∧ (r11 = 0 → post (-2 : Int32) I Q))))) ∧ (x2 = 0 → post (-1 : Int32) I Q))))))))
set_option maxHeartbeats 4000000 in
set_option maxRecDepth 100000 in
theorem met_X10_put {Z : Nat → Prop} {A : Nat → Prop} {D : va_G} {D2 : Nat → ClassId} {ad : Nat → Nat} {N : Nat} {T : Nat → Nat × Nat} (l : Launch) {I : KI} {J : KJ} {Q : KQ} {h0 : Nat} {x1 : Int32} {x2 : Int32} {post : Int32 → KI → KQ → Prop} (hWF : WF Z N T Q) (z0 : OKr Z N T h0 (10, 0)) (hw : wp_X10_put I Q h0 x1 x2 post) : Met l yX10_put (.code yX10_put cX10_put 3 (some .int) :: BIG) ({ frames := 4, cells := 0, slots := 0, locals := 104 }) (Pr D D2 A ad N T I J Q [.ref (ad h0), .int x1, .int x2]) (va_Qi (fun (r : Int32) (u : KS) => post r u.1 u.2.2 ∧ u.2.1 = J ∧ WF Z N T u.2.2) (Bw D D2 ad N T) A) 0 0 A := by
  refine Met_GG (lv0 := [(0, .ref (ad h0)), (1, .int x1), (2, .int x2)]) (by decide +kernel) [.ref (ad h0), .int x1, .int x2] (Nat.le_of_ble_eq_true rfl) rfl ?_
  intro p e s m below meth c C hr
  have C : CX p s m [.ref (ad h0), .int x1, .int x2].toArray meth c cX10_put 3 RX10 A D D2 := C
  unfold wp_X10_put at hw
  refine g_aload_n C dX10_put_0 rfl 0 rfl ?_
  refine g_getQ C dX10_put_1 ft_216 z0 (hWF.q z0 0 rfl) ?_
  have zz1 := hWF.r z0 0 rfl
  refine g_iload_n C dX10_put_4 rfl 1 rfl ?_
  refine g_callVi (As := [.int x1]) C dX10_put_5 ft_46 zz1 ft_227 ft_228 (met_X1_hasNode l hWF zz1 hw) ⟨rfl, rfl, Nat.le_of_ble_eq_true rfl, Nat.le_of_ble_eq_true rfl⟩ ⟨Nat.zero_le _, Nat.zero_le _⟩ rfl rfl (Nat.le_of_ble_eq_true rfl) (fun r2 I2 J2 Q2 hp => ?_)
  obtain ⟨hw, eI, eJ, eQ, hWF⟩ := hp
  have eI : I = I2 := Eq.symm eI
  subst eI
  have eJ : J = J2 := Eq.symm eJ
  subst eJ
  have eQ : Q = Q2 := Eq.symm eQ
  subst eQ
  try dsimp only at hw hWF
  refine g_if_eq (tgt := 26) C dX10_put_8 (by decide) (fun c3 => ?_) (fun c3 => ?_)
  · have hw := hw.1 c3
    refine g_iconst (v := (-1 : Int32)) C dX10_put_26 (by decide) ?_
    exact g_iret C dX10_put_27 hr ⟨hw, rfl, hWF⟩
  · have hw := hw.2 c3
    refine g_aload_n C dX10_put_11 rfl 0 rfl ?_
    refine g_getQ C dX10_put_12 ft_216 z0 (hWF.q z0 0 rfl) ?_
    have zz4 := hWF.r z0 0 rfl
    refine g_iload_n C dX10_put_15 rfl 2 rfl ?_
    refine g_callVi (As := [.int x2]) C dX10_put_16 ft_46 zz4 ft_225 ft_226 (met_X1_isSum l hWF zz4 hw) ⟨rfl, rfl, Nat.le_of_ble_eq_true rfl, Nat.le_of_ble_eq_true rfl⟩ ⟨Nat.zero_le _, Nat.zero_le _⟩ rfl rfl (Nat.le_of_ble_eq_true rfl) (fun r5 I5 J5 Q5 hp => ?_)
    obtain ⟨hw, eI, eJ, eQ, hWF⟩ := hp
    have eI : I = I5 := Eq.symm eI
    subst eI
    have eJ : J = J5 := Eq.symm eJ
    subst eJ
    have eQ : Q = Q5 := Eq.symm eQ
    subst eQ
    try dsimp only at hw hWF
    refine g_if_eq (tgt := 26) C dX10_put_19 (by decide) (fun c6 => ?_) (fun c6 => ?_)
    · have hw := hw.1 c6
      refine g_iconst (v := (-1 : Int32)) C dX10_put_26 (by decide) ?_
      exact g_iret C dX10_put_27 hr ⟨hw, rfl, hWF⟩
    · have hw := hw.2 c6
      refine g_iload_n C dX10_put_22 rfl 2 rfl ?_
      refine g_if_ne (tgt := 28) C dX10_put_23 (by decide) (fun c7 => ?_) (fun c7 => ?_)
      · have hw := hw.1 c7
        refine g_aload_n C dX10_put_28 rfl 0 rfl ?_
        refine g_getQ C dX10_put_29 ft_216 z0 (hWF.q z0 0 rfl) ?_
        have zz8 := hWF.r z0 0 rfl
        refine g_getQ C dX10_put_32 ft_218 zz8 (hWF.q zz8 1 rfl) ?_
        have zz9 := hWF.r zz8 1 rfl
        refine g_iload_n C dX10_put_35 rfl 1 rfl ?_
        have hrzz10 := rft_eS hw.1
        refine g_aaldS C dX10_put_36 zz9 hw.1 (hWF.q zz9 _ hrzz10) ?_
        have zz10 := hWF.r zz9 _ hrzz10
        have hw := hw.2
        refine g_iload_n C dX10_put_37 rfl 2 rfl ?_
        refine g_callVi (As := [.int x2]) C dX10_put_38 ft_22 zz10 ft_224 ft_21 (met_X7_rest l hWF zz10 hw) ⟨rfl, rfl, Nat.le_of_ble_eq_true rfl, Nat.le_of_ble_eq_true rfl⟩ ⟨Nat.zero_le _, Nat.zero_le _⟩ rfl rfl (Nat.le_of_ble_eq_true rfl) (fun r11 I11 J11 Q11 hp => ?_)
        obtain ⟨hw, eI, eJ, eQ, hWF⟩ := hp
        have eI : I = I11 := Eq.symm eI
        subst eI
        have eJ : J = J11 := Eq.symm eJ
        subst eJ
        have eQ : Q = Q11 := Eq.symm eQ
        subst eQ
        try dsimp only at hw hWF
        refine g_if_ne (tgt := 47) C dX10_put_41 (by decide) (fun c12 => ?_) (fun c12 => ?_)
        · have hw := hw.1 c12
          refine g_aload_n C dX10_put_47 rfl 0 rfl ?_
          refine g_getQ C dX10_put_48 ft_219 z0 (hWF.q z0 1 rfl) ?_
          have zz13 := hWF.r z0 1 rfl
          refine g_aload_n C dX10_put_51 rfl 0 rfl ?_
          refine g_getQ C dX10_put_52 ft_216 z0 (hWF.q z0 0 rfl) ?_
          have zz14 := hWF.r z0 0 rfl
          refine g_callVv (As := [.ref (ad (rq Q h0 0))]) C dX10_put_55 ft_133 zz13 ft_222 ft_223 (met_X3_keep l hWF zz13 zz14 hw) ⟨rfl, rfl, Nat.le_of_ble_eq_true rfl, Nat.le_of_ble_eq_true rfl⟩ ⟨Nat.zero_le _, Nat.zero_le _⟩ rfl rfl (Nat.le_of_ble_eq_true rfl) (fun I15 J15 Q15 hp => ?_)
          obtain ⟨hw, eJ, hWF⟩ := hp
          have eJ : J = J15 := Eq.symm eJ
          subst eJ
          try dsimp only at hw hWF
          refine g_aload_n C dX10_put_58 rfl 0 rfl ?_
          refine g_getQ C dX10_put_59 ft_216 z0 (hWF.q z0 0 rfl) ?_
          have zz16 := hWF.r z0 0 rfl
          refine g_getQ C dX10_put_62 ft_218 zz16 (hWF.q zz16 1 rfl) ?_
          have zz17 := hWF.r zz16 1 rfl
          refine g_iload_n C dX10_put_65 rfl 1 rfl ?_
          have hrzz18 := rft_eS hw.1
          refine g_aaldS C dX10_put_66 zz17 hw.1 (hWF.q zz17 _ hrzz18) ?_
          have zz18 := hWF.r zz17 _ hrzz18
          have hw := hw.2
          refine g_iload_n C dX10_put_67 rfl 2 rfl ?_
          refine g_callVi (As := [.int x2]) C dX10_put_68 ft_22 zz18 ft_221 ft_28 (met_X7_add l hWF zz18 hw) ⟨rfl, rfl, Nat.le_of_ble_eq_true rfl, Nat.le_of_ble_eq_true rfl⟩ ⟨Nat.zero_le _, Nat.zero_le _⟩ rfl rfl (Nat.le_of_ble_eq_true rfl) (fun r19 I19 J19 Q19 hp => ?_)
          obtain ⟨hw, eJ, eQ, hWF⟩ := hp
          have eJ : J = J19 := Eq.symm eJ
          subst eJ
          have eQ : Q15 = Q19 := Eq.symm eQ
          subst eQ
          try dsimp only at hw hWF
          refine g_pop C dX10_put_71 rfl ?_
          refine g_aload_n C dX10_put_72 rfl 0 rfl ?_
          refine g_getQ C dX10_put_73 ft_216 z0 (hWF.q z0 0 rfl) ?_
          have zz20 := hWF.r z0 0 rfl
          refine g_getQ C dX10_put_76 ft_218 zz20 (hWF.q zz20 1 rfl) ?_
          have zz21 := hWF.r zz20 1 rfl
          refine g_iload_n C dX10_put_79 rfl 1 rfl ?_
          have hrzz22 := rft_eS hw.1
          refine g_aaldS C dX10_put_80 zz21 hw.1 (hWF.q zz21 _ hrzz22) ?_
          have zz22 := hWF.r zz21 _ hrzz22
          have hw := hw.2
          refine g_callVi (As := []) C dX10_put_81 ft_22 zz22 ft_220 ft_32 (met_X7_rank l hWF zz22 hw) ⟨rfl, rfl, Nat.le_of_ble_eq_true rfl, Nat.le_of_ble_eq_true rfl⟩ ⟨Nat.zero_le _, Nat.zero_le _⟩ rfl rfl (Nat.le_of_ble_eq_true rfl) (fun r23 I23 J23 Q23 hp => ?_)
          obtain ⟨hw, eI, eJ, eQ, hWF⟩ := hp
          have eI : I19 = I23 := Eq.symm eI
          subst eI
          have eJ : J = J23 := Eq.symm eJ
          subst eJ
          have eQ : Q15 = Q23 := Eq.symm eQ
          subst eQ
          try dsimp only at hw hWF
          exact g_iret C dX10_put_84 hr ⟨hw, rfl, hWF⟩
        · have hw := hw.2 c12
          refine g_bipush (v := (-2 : Int32)) C dX10_put_44 (by decide) ?_
          exact g_iret C dX10_put_46 hr ⟨hw, rfl, hWF⟩
      · have hw := hw.2 c7
        refine g_iconst (v := (-1 : Int32)) C dX10_put_26 (by decide) ?_
        exact g_iret C dX10_put_27 hr ⟨hw, rfl, hWF⟩
def wp_X10_node (I : KI) (Q : KQ) (h0 : Nat) (x1 : Int32) (x2 : Int32) (post : Int32 → KI → Prop) : Prop := wp_X1_hasNode I (rq Q h0 0) x1 (fun r2 => ((¬ r2 = 0 → ((x2 = 0 → (vp_in x1 6 ∧ wp_X7_rank I Q (rq Q (rq Q (rq Q h0 0) 1) x1.toNatClampNeg) (fun r8 => post r8 I))) ∧ (x2 = 1 → (vp_in x1 6 ∧ wp_X7_told I Q (rq Q (rq Q (rq Q h0 0) 1) x1.toNatClampNeg) (fun r13 => post r13 I))) ∧ (x2 = 2 → (vp_in x1 6 ∧ post (I (rq Q (rq Q h0 0) 2) x1.toNatClampNeg) I)) ∧ (x2 = 3 → wp_X1_neighbours I Q (rq Q h0 0) (I (rq Q h0 0) 7) x1 (fun r20 => post r20 I)) ∧ (x2 = 4 → wp_X5_prepare I Q (rq Q h0 5) (rq Q h0 0) (I (rq Q h0 0) 5) (fun I25 => wp_X1_neighbours I25 Q (rq Q h0 0) (I25 (rq Q h0 0) 7) x1 (fun r30 => wp_X5_growth I25 Q (rq Q h0 5) (rq Q h0 0) x1 r30 (fun r31 I31 => post r31 I31)))) ∧ (¬ x2 = 0 → ¬ x2 = 1 → ¬ x2 = 2 → ¬ x2 = 3 → ¬ x2 = 4 → post (-1 : Int32) I))) ∧ (r2 = 0 → post (-1 : Int32) I)))
set_option maxHeartbeats 4000000 in
set_option maxRecDepth 100000 in
theorem met_X10_node {Z : Nat → Prop} {A : Nat → Prop} {D : va_G} {D2 : Nat → ClassId} {ad : Nat → Nat} {N : Nat} {T : Nat → Nat × Nat} (l : Launch) {I : KI} {J : KJ} {Q : KQ} {h0 : Nat} {x1 : Int32} {x2 : Int32} {post : Int32 → KI → Prop} (hWF : WF Z N T Q) (z0 : OKr Z N T h0 (10, 0)) (hw : wp_X10_node I Q h0 x1 x2 post) : Met l yX10_node (.code yX10_node cX10_node 3 (some .int) :: BIG) ({ frames := 5, cells := 0, slots := 0, locals := 119 }) (Pr D D2 A ad N T I J Q [.ref (ad h0), .int x1, .int x2]) (va_Qi (fun (r : Int32) (u : KS) => post r u.1 ∧ u.2.1 = J ∧ u.2.2 = Q ∧ WF Z N T u.2.2) (Bw D D2 ad N T) A) 0 0 A := by
  refine Met_GG (lv0 := [(0, .ref (ad h0)), (1, .int x1), (2, .int x2)]) (by decide +kernel) [.ref (ad h0), .int x1, .int x2] (Nat.le_of_ble_eq_true rfl) rfl ?_
  intro p e s m below meth c C hr
  have C : CX p s m [.ref (ad h0), .int x1, .int x2].toArray meth c cX10_node 3 RX10 A D D2 := C
  unfold wp_X10_node at hw
  refine g_aload_n C dX10_node_0 rfl 0 rfl ?_
  refine g_getQ C dX10_node_1 ft_216 z0 (hWF.q z0 0 rfl) ?_
  have zz1 := hWF.r z0 0 rfl
  refine g_iload_n C dX10_node_4 rfl 1 rfl ?_
  refine g_callVi (As := [.int x1]) C dX10_node_5 ft_46 zz1 ft_227 ft_228 (met_X1_hasNode l hWF zz1 hw) ⟨rfl, rfl, Nat.le_of_ble_eq_true rfl, Nat.le_of_ble_eq_true rfl⟩ ⟨Nat.zero_le _, Nat.zero_le _⟩ rfl rfl (Nat.le_of_ble_eq_true rfl) (fun r2 I2 J2 Q2 hp => ?_)
  obtain ⟨hw, eI, eJ, eQ, hWF⟩ := hp
  have eI : I = I2 := Eq.symm eI
  subst eI
  have eJ : J = J2 := Eq.symm eJ
  subst eJ
  have eQ : Q = Q2 := Eq.symm eQ
  subst eQ
  try dsimp only at hw hWF
  refine g_if_ne (tgt := 13) C dX10_node_8 (by decide) (fun c3 => ?_) (fun c3 => ?_)
  · have hw := hw.1 c3
    refine g_iload_n C dX10_node_13 rfl 2 rfl ?_
    by_cases c4 : x2 = 0
    · have hw := hw.1 c4
      refine g_tableIn (tgt := 48) C dX10_node_14 (by rw [c4]; decide) (by rw [c4]; decide) (by rw [c4]; rfl) (by decide) ?_
      refine g_aload_n C dX10_node_48 rfl 0 rfl ?_
      refine g_getQ C dX10_node_49 ft_216 z0 (hWF.q z0 0 rfl) ?_
      have zz5 := hWF.r z0 0 rfl
      refine g_getQ C dX10_node_52 ft_218 zz5 (hWF.q zz5 1 rfl) ?_
      have zz6 := hWF.r zz5 1 rfl
      refine g_iload_n C dX10_node_55 rfl 1 rfl ?_
      have hrzz7 := rft_eS hw.1
      refine g_aaldS C dX10_node_56 zz6 hw.1 (hWF.q zz6 _ hrzz7) ?_
      have zz7 := hWF.r zz6 _ hrzz7
      have hw := hw.2
      refine g_callVi (As := []) C dX10_node_57 ft_22 zz7 ft_220 ft_32 (met_X7_rank l hWF zz7 hw) ⟨rfl, rfl, Nat.le_of_ble_eq_true rfl, Nat.le_of_ble_eq_true rfl⟩ ⟨Nat.zero_le _, Nat.zero_le _⟩ rfl rfl (Nat.le_of_ble_eq_true rfl) (fun r8 I8 J8 Q8 hp => ?_)
      obtain ⟨hw, eI, eJ, eQ, hWF⟩ := hp
      have eI : I = I8 := Eq.symm eI
      subst eI
      have eJ : J = J8 := Eq.symm eJ
      subst eJ
      have eQ : Q = Q8 := Eq.symm eQ
      subst eQ
      try dsimp only at hw hWF
      exact g_iret C dX10_node_60 hr ⟨hw, rfl, rfl, hWF⟩
    by_cases c9 : x2 = 1
    · have hw := hw.2.1 c9
      refine g_tableIn (tgt := 61) C dX10_node_14 (by rw [c9]; decide) (by rw [c9]; decide) (by rw [c9]; rfl) (by decide) ?_
      refine g_aload_n C dX10_node_61 rfl 0 rfl ?_
      refine g_getQ C dX10_node_62 ft_216 z0 (hWF.q z0 0 rfl) ?_
      have zz10 := hWF.r z0 0 rfl
      refine g_getQ C dX10_node_65 ft_218 zz10 (hWF.q zz10 1 rfl) ?_
      have zz11 := hWF.r zz10 1 rfl
      refine g_iload_n C dX10_node_68 rfl 1 rfl ?_
      have hrzz12 := rft_eS hw.1
      refine g_aaldS C dX10_node_69 zz11 hw.1 (hWF.q zz11 _ hrzz12) ?_
      have zz12 := hWF.r zz11 _ hrzz12
      have hw := hw.2
      refine g_callVi (As := []) C dX10_node_70 ft_22 zz12 ft_229 ft_151 (met_X7_told l hWF zz12 hw) ⟨rfl, rfl, Nat.le_of_ble_eq_true rfl, Nat.le_of_ble_eq_true rfl⟩ ⟨Nat.zero_le _, Nat.zero_le _⟩ rfl rfl (Nat.le_of_ble_eq_true rfl) (fun r13 I13 J13 Q13 hp => ?_)
      obtain ⟨hw, eI, eJ, eQ, hWF⟩ := hp
      have eI : I = I13 := Eq.symm eI
      subst eI
      have eJ : J = J13 := Eq.symm eJ
      subst eJ
      have eQ : Q = Q13 := Eq.symm eQ
      subst eQ
      try dsimp only at hw hWF
      exact g_iret C dX10_node_73 hr ⟨hw, rfl, rfl, hWF⟩
    by_cases c14 : x2 = 2
    · have hw := hw.2.2.1 c14
      refine g_tableIn (tgt := 74) C dX10_node_14 (by rw [c14]; decide) (by rw [c14]; decide) (by rw [c14]; rfl) (by decide) ?_
      refine g_aload_n C dX10_node_74 rfl 0 rfl ?_
      refine g_getQ C dX10_node_75 ft_216 z0 (hWF.q z0 0 rfl) ?_
      have zz15 := hWF.r z0 0 rfl
      refine g_getQ C dX10_node_78 ft_230 zz15 (hWF.q zz15 2 rfl) ?_
      have zz16 := hWF.r zz15 2 rfl
      refine g_iload_n C dX10_node_81 rfl 1 rfl ?_
      refine g_iald C dX10_node_82 zz16 hw.1 ?_
      have hw := hw.2
      exact g_iret C dX10_node_83 hr ⟨hw, rfl, rfl, hWF⟩
    by_cases c17 : x2 = 3
    · have hw := hw.2.2.2.1 c17
      refine g_tableIn (tgt := 84) C dX10_node_14 (by rw [c17]; decide) (by rw [c17]; decide) (by rw [c17]; rfl) (by decide) ?_
      refine g_aload_n C dX10_node_84 rfl 0 rfl ?_
      refine g_getQ C dX10_node_85 ft_216 z0 (hWF.q z0 0 rfl) ?_
      have zz18 := hWF.r z0 0 rfl
      refine g_aload_n C dX10_node_88 rfl 0 rfl ?_
      refine g_getQ C dX10_node_89 ft_216 z0 (hWF.q z0 0 rfl) ?_
      have zz19 := hWF.r z0 0 rfl
      refine g_getI C dX10_node_92 ft_231 zz19 ?_
      refine g_iload_n C dX10_node_95 rfl 1 rfl ?_
      refine g_callVi (As := [.int (I (rq Q h0 0) 7), .int x1]) C dX10_node_96 ft_46 zz18 ft_232 ft_45 (met_X1_neighbours l hWF zz18 hw) ⟨rfl, rfl, Nat.le_of_ble_eq_true rfl, Nat.le_of_ble_eq_true rfl⟩ ⟨Nat.zero_le _, Nat.zero_le _⟩ rfl rfl (Nat.le_of_ble_eq_true rfl) (fun r20 I20 J20 Q20 hp => ?_)
      obtain ⟨hw, eI, eJ, eQ, hWF⟩ := hp
      have eI : I = I20 := Eq.symm eI
      subst eI
      have eJ : J = J20 := Eq.symm eJ
      subst eJ
      have eQ : Q = Q20 := Eq.symm eQ
      subst eQ
      try dsimp only at hw hWF
      exact g_iret C dX10_node_99 hr ⟨hw, rfl, rfl, hWF⟩
    by_cases c21 : x2 = 4
    · have hw := hw.2.2.2.2.1 c21
      refine g_tableIn (tgt := 100) C dX10_node_14 (by rw [c21]; decide) (by rw [c21]; decide) (by rw [c21]; rfl) (by decide) ?_
      refine g_aload_n C dX10_node_100 rfl 0 rfl ?_
      refine g_getQ C dX10_node_101 ft_233 z0 (hWF.q z0 5 rfl) ?_
      have zz22 := hWF.r z0 5 rfl
      refine g_aload_n C dX10_node_104 rfl 0 rfl ?_
      refine g_getQ C dX10_node_105 ft_216 z0 (hWF.q z0 0 rfl) ?_
      have zz23 := hWF.r z0 0 rfl
      refine g_aload_n C dX10_node_108 rfl 0 rfl ?_
      refine g_getQ C dX10_node_109 ft_216 z0 (hWF.q z0 0 rfl) ?_
      have zz24 := hWF.r z0 0 rfl
      refine g_getI C dX10_node_112 ft_234 zz24 ?_
      refine g_callVv (As := [.ref (ad (rq Q h0 0)), .int (I (rq Q h0 0) 5)]) C dX10_node_115 ft_37 zz22 ft_236 ft_166 (met_X5_prepare l hWF zz22 zz23 hw) ⟨rfl, rfl, Nat.le_of_ble_eq_true rfl, Nat.le_of_ble_eq_true rfl⟩ ⟨Nat.zero_le _, Nat.zero_le _⟩ rfl rfl (Nat.le_of_ble_eq_true rfl) (fun I25 J25 Q25 hp => ?_)
      obtain ⟨hw, eJ, eQ, hWF⟩ := hp
      have eJ : J = J25 := Eq.symm eJ
      subst eJ
      have eQ : Q = Q25 := Eq.symm eQ
      subst eQ
      try dsimp only at hw hWF
      refine g_aload_n C dX10_node_118 rfl 0 rfl ?_
      refine g_getQ C dX10_node_119 ft_233 z0 (hWF.q z0 5 rfl) ?_
      have zz26 := hWF.r z0 5 rfl
      refine g_aload_n C dX10_node_122 rfl 0 rfl ?_
      refine g_getQ C dX10_node_123 ft_216 z0 (hWF.q z0 0 rfl) ?_
      have zz27 := hWF.r z0 0 rfl
      refine g_iload_n C dX10_node_126 rfl 1 rfl ?_
      refine g_aload_n C dX10_node_127 rfl 0 rfl ?_
      refine g_getQ C dX10_node_128 ft_216 z0 (hWF.q z0 0 rfl) ?_
      have zz28 := hWF.r z0 0 rfl
      refine g_aload_n C dX10_node_131 rfl 0 rfl ?_
      refine g_getQ C dX10_node_132 ft_216 z0 (hWF.q z0 0 rfl) ?_
      have zz29 := hWF.r z0 0 rfl
      refine g_getI C dX10_node_135 ft_231 zz29 ?_
      refine g_iload_n C dX10_node_138 rfl 1 rfl ?_
      refine g_callVi (As := [.int (I25 (rq Q h0 0) 7), .int x1]) C dX10_node_139 ft_46 zz28 ft_232 ft_45 (met_X1_neighbours l hWF zz28 hw) ⟨rfl, rfl, Nat.le_of_ble_eq_true rfl, Nat.le_of_ble_eq_true rfl⟩ ⟨Nat.zero_le _, Nat.zero_le _⟩ rfl rfl (Nat.le_of_ble_eq_true rfl) (fun r30 I30 J30 Q30 hp => ?_)
      obtain ⟨hw, eI, eJ, eQ, hWF⟩ := hp
      have eI : I25 = I30 := Eq.symm eI
      subst eI
      have eJ : J = J30 := Eq.symm eJ
      subst eJ
      have eQ : Q = Q30 := Eq.symm eQ
      subst eQ
      try dsimp only at hw hWF
      refine g_callVi (As := [.ref (ad (rq Q h0 0)), .int x1, .int r30]) C dX10_node_142 ft_37 zz26 ft_235 ft_43 (met_X5_growth l hWF zz26 zz27 hw) ⟨rfl, rfl, Nat.le_of_ble_eq_true rfl, Nat.le_of_ble_eq_true rfl⟩ ⟨Nat.zero_le _, Nat.zero_le _⟩ rfl rfl (Nat.le_of_ble_eq_true rfl) (fun r31 I31 J31 Q31 hp => ?_)
      obtain ⟨hw, eJ, eQ, hWF⟩ := hp
      have eJ : J = J31 := Eq.symm eJ
      subst eJ
      have eQ : Q = Q31 := Eq.symm eQ
      subst eQ
      try dsimp only at hw hWF
      exact g_iret C dX10_node_145 hr ⟨hw, rfl, rfl, hWF⟩
    have hw := hw.2.2.2.2.2 c4 c9 c14 c17 c21
    refine g_tableOut (tgt := 146) C dX10_node_14 (sw_out (fun v h1 h2 => by rcases (show v = 0 ∨ v = 1 ∨ v = 2 ∨ v = 3 ∨ v = 4 by omega) with rfl | rfl | rfl | rfl | rfl <;> first | exact c4 | exact c9 | exact c14 | exact c17 | exact c21)) (by decide) ?_
    refine g_iconst (v := (-1 : Int32)) C dX10_node_146 (by decide) ?_
    exact g_iret C dX10_node_147 hr ⟨hw, rfl, rfl, hWF⟩
  · have hw := hw.2 c3
    refine g_iconst (v := (-1 : Int32)) C dX10_node_11 (by decide) ?_
    exact g_iret C dX10_node_12 hr ⟨hw, rfl, rfl, hWF⟩
def wp_X10_sum (I : KI) (Q : KQ) (h0 : Nat) (x1 : Int32) (x2 : Int32) (post : Int32 → Prop) : Prop := wp_X1_hasNode I (rq Q h0 0) x1 (fun r2 => ((r2 = 0 → post (-1 : Int32)) ∧ (¬ r2 = 0 → ((0 ≤ x2 → (vp_in x1 6 ∧ wp_X7_rank I Q (rq Q (rq Q (rq Q h0 0) 1) x1.toNatClampNeg) (fun r8 => ((r8 ≤ x2 → post (-4 : Int32)) ∧ (¬ r8 ≤ x2 → (vp_in x1 6 ∧ wp_X7_row I Q (rq Q (rq Q (rq Q h0 0) 1) x1.toNatClampNeg) x2 (fun r13 => post r13))))))) ∧ (¬ 0 ≤ x2 → post (-1 : Int32))))))
set_option maxHeartbeats 4000000 in
set_option maxRecDepth 100000 in
theorem met_X10_sum {Z : Nat → Prop} {A : Nat → Prop} {D : va_G} {D2 : Nat → ClassId} {ad : Nat → Nat} {N : Nat} {T : Nat → Nat × Nat} (l : Launch) {I : KI} {J : KJ} {Q : KQ} {h0 : Nat} {x1 : Int32} {x2 : Int32} {post : Int32 → Prop} (hWF : WF Z N T Q) (z0 : OKr Z N T h0 (10, 0)) (hw : wp_X10_sum I Q h0 x1 x2 post) : Met l yX10_sum (.code yX10_sum cX10_sum 3 (some .int) :: BIG) ({ frames := 1, cells := 0, slots := 0, locals := 23 }) (Pr D D2 A ad N T I J Q [.ref (ad h0), .int x1, .int x2]) (va_Qi (fun (r : Int32) (u : KS) => post r ∧ u.1 = I ∧ u.2.1 = J ∧ u.2.2 = Q ∧ WF Z N T u.2.2) (Bw D D2 ad N T) A) 0 0 A := by
  refine Met_GG (lv0 := [(0, .ref (ad h0)), (1, .int x1), (2, .int x2)]) (by decide +kernel) [.ref (ad h0), .int x1, .int x2] (Nat.le_of_ble_eq_true rfl) rfl ?_
  intro p e s m below meth c C hr
  have C : CX p s m [.ref (ad h0), .int x1, .int x2].toArray meth c cX10_sum 3 RX10 A D D2 := C
  unfold wp_X10_sum at hw
  refine g_aload_n C dX10_sum_0 rfl 0 rfl ?_
  refine g_getQ C dX10_sum_1 ft_216 z0 (hWF.q z0 0 rfl) ?_
  have zz1 := hWF.r z0 0 rfl
  refine g_iload_n C dX10_sum_4 rfl 1 rfl ?_
  refine g_callVi (As := [.int x1]) C dX10_sum_5 ft_46 zz1 ft_227 ft_228 (met_X1_hasNode l hWF zz1 hw) ⟨rfl, rfl, Nat.le_of_ble_eq_true rfl, Nat.le_of_ble_eq_true rfl⟩ ⟨Nat.zero_le _, Nat.zero_le _⟩ rfl rfl (Nat.le_of_ble_eq_true rfl) (fun r2 I2 J2 Q2 hp => ?_)
  obtain ⟨hw, eI, eJ, eQ, hWF⟩ := hp
  have eI : I = I2 := Eq.symm eI
  subst eI
  have eJ : J = J2 := Eq.symm eJ
  subst eJ
  have eQ : Q = Q2 := Eq.symm eQ
  subst eQ
  try dsimp only at hw hWF
  refine g_if_eq (tgt := 15) C dX10_sum_8 (by decide) (fun c3 => ?_) (fun c3 => ?_)
  · have hw := hw.1 c3
    refine g_iconst (v := (-1 : Int32)) C dX10_sum_15 (by decide) ?_
    exact g_iret C dX10_sum_16 hr ⟨hw, rfl, rfl, rfl, hWF⟩
  · have hw := hw.2 c3
    refine g_iload_n C dX10_sum_11 rfl 2 rfl ?_
    refine g_if_ge (tgt := 17) C dX10_sum_12 (by decide) (fun c4 => ?_) (fun c4 => ?_)
    · have hw := hw.1 c4
      refine g_iload_n C dX10_sum_17 rfl 2 rfl ?_
      refine g_aload_n C dX10_sum_18 rfl 0 rfl ?_
      refine g_getQ C dX10_sum_19 ft_216 z0 (hWF.q z0 0 rfl) ?_
      have zz5 := hWF.r z0 0 rfl
      refine g_getQ C dX10_sum_22 ft_218 zz5 (hWF.q zz5 1 rfl) ?_
      have zz6 := hWF.r zz5 1 rfl
      refine g_iload_n C dX10_sum_25 rfl 1 rfl ?_
      have hrzz7 := rft_eS hw.1
      refine g_aaldS C dX10_sum_26 zz6 hw.1 (hWF.q zz6 _ hrzz7) ?_
      have zz7 := hWF.r zz6 _ hrzz7
      have hw := hw.2
      refine g_callVi (As := []) C dX10_sum_27 ft_22 zz7 ft_220 ft_32 (met_X7_rank l hWF zz7 hw) ⟨rfl, rfl, Nat.le_of_ble_eq_true rfl, Nat.le_of_ble_eq_true rfl⟩ ⟨Nat.zero_le _, Nat.zero_le _⟩ rfl rfl (Nat.le_of_ble_eq_true rfl) (fun r8 I8 J8 Q8 hp => ?_)
      obtain ⟨hw, eI, eJ, eQ, hWF⟩ := hp
      have eI : I = I8 := Eq.symm eI
      subst eI
      have eJ : J = J8 := Eq.symm eJ
      subst eJ
      have eQ : Q = Q8 := Eq.symm eQ
      subst eQ
      try dsimp only at hw hWF
      refine g_icmp_ge (tgt := 49) C dX10_sum_30 (by decide) (fun c9 => ?_) (fun c9 => ?_)
      · have hw := hw.1 c9
        refine g_bipush (v := (-4 : Int32)) C dX10_sum_49 (by decide) ?_
        exact g_iret C dX10_sum_51 hr ⟨hw, rfl, rfl, rfl, hWF⟩
      · have hw := hw.2 c9
        refine g_aload_n C dX10_sum_33 rfl 0 rfl ?_
        refine g_getQ C dX10_sum_34 ft_216 z0 (hWF.q z0 0 rfl) ?_
        have zz10 := hWF.r z0 0 rfl
        refine g_getQ C dX10_sum_37 ft_218 zz10 (hWF.q zz10 1 rfl) ?_
        have zz11 := hWF.r zz10 1 rfl
        refine g_iload_n C dX10_sum_40 rfl 1 rfl ?_
        have hrzz12 := rft_eS hw.1
        refine g_aaldS C dX10_sum_41 zz11 hw.1 (hWF.q zz11 _ hrzz12) ?_
        have zz12 := hWF.r zz11 _ hrzz12
        have hw := hw.2
        refine g_iload_n C dX10_sum_42 rfl 2 rfl ?_
        refine g_callVi (As := [.int x2]) C dX10_sum_43 ft_22 zz12 ft_237 ft_238 (met_X7_row l hWF zz12 hw) ⟨rfl, rfl, Nat.le_of_ble_eq_true rfl, Nat.le_of_ble_eq_true rfl⟩ ⟨Nat.zero_le _, Nat.zero_le _⟩ rfl rfl (Nat.le_of_ble_eq_true rfl) (fun r13 I13 J13 Q13 hp => ?_)
        obtain ⟨hw, eI, eJ, eQ, hWF⟩ := hp
        have eI : I = I13 := Eq.symm eI
        subst eI
        have eJ : J = J13 := Eq.symm eJ
        subst eJ
        have eQ : Q = Q13 := Eq.symm eQ
        subst eQ
        try dsimp only at hw hWF
        refine g_goto C dX10_sum_46 (tgt := 51) (by decide) ?_
        exact g_iret C dX10_sum_51 hr ⟨hw, rfl, rfl, rfl, hWF⟩
    · have hw := hw.2 c4
      refine g_iconst (v := (-1 : Int32)) C dX10_sum_15 (by decide) ?_
      exact g_iret C dX10_sum_16 hr ⟨hw, rfl, rfl, rfl, hWF⟩
def wp_X10_knows (I : KI) (Q : KQ) (h0 : Nat) (x1 : Int32) (x2 : Int32) (post : Int32 → Prop) : Prop := wp_X1_hasNode I (rq Q h0 0) x1 (fun r2 => ((r2 = 0 → post (-1 : Int32)) ∧ (¬ r2 = 0 → wp_X1_isSum I (rq Q h0 0) x2 (fun r5 => ((¬ r5 = 0 → (vp_in x1 6 ∧ wp_X7_rest I Q (rq Q (rq Q (rq Q h0 0) 1) x1.toNatClampNeg) x2 (fun r10 => ((¬ r10 = 0 → post (0 : Int32)) ∧ (r10 = 0 → post (1 : Int32)))))) ∧ (r5 = 0 → post (-1 : Int32)))))))
set_option maxHeartbeats 4000000 in
set_option maxRecDepth 100000 in
theorem met_X10_knows {Z : Nat → Prop} {A : Nat → Prop} {D : va_G} {D2 : Nat → ClassId} {ad : Nat → Nat} {N : Nat} {T : Nat → Nat × Nat} (l : Launch) {I : KI} {J : KJ} {Q : KQ} {h0 : Nat} {x1 : Int32} {x2 : Int32} {post : Int32 → Prop} (hWF : WF Z N T Q) (z0 : OKr Z N T h0 (10, 0)) (hw : wp_X10_knows I Q h0 x1 x2 post) : Met l yX10_knows (.code yX10_knows cX10_knows 3 (some .int) :: BIG) ({ frames := 2, cells := 0, slots := 0, locals := 44 }) (Pr D D2 A ad N T I J Q [.ref (ad h0), .int x1, .int x2]) (va_Qi (fun (r : Int32) (u : KS) => post r ∧ u.1 = I ∧ u.2.1 = J ∧ u.2.2 = Q ∧ WF Z N T u.2.2) (Bw D D2 ad N T) A) 0 0 A := by
  refine Met_GG (lv0 := [(0, .ref (ad h0)), (1, .int x1), (2, .int x2)]) (by decide +kernel) [.ref (ad h0), .int x1, .int x2] (Nat.le_of_ble_eq_true rfl) rfl ?_
  intro p e s m below meth c C hr
  have C : CX p s m [.ref (ad h0), .int x1, .int x2].toArray meth c cX10_knows 3 RX10 A D D2 := C
  unfold wp_X10_knows at hw
  refine g_aload_n C dX10_knows_0 rfl 0 rfl ?_
  refine g_getQ C dX10_knows_1 ft_216 z0 (hWF.q z0 0 rfl) ?_
  have zz1 := hWF.r z0 0 rfl
  refine g_iload_n C dX10_knows_4 rfl 1 rfl ?_
  refine g_callVi (As := [.int x1]) C dX10_knows_5 ft_46 zz1 ft_227 ft_228 (met_X1_hasNode l hWF zz1 hw) ⟨rfl, rfl, Nat.le_of_ble_eq_true rfl, Nat.le_of_ble_eq_true rfl⟩ ⟨Nat.zero_le _, Nat.zero_le _⟩ rfl rfl (Nat.le_of_ble_eq_true rfl) (fun r2 I2 J2 Q2 hp => ?_)
  obtain ⟨hw, eI, eJ, eQ, hWF⟩ := hp
  have eI : I = I2 := Eq.symm eI
  subst eI
  have eJ : J = J2 := Eq.symm eJ
  subst eJ
  have eQ : Q = Q2 := Eq.symm eQ
  subst eQ
  try dsimp only at hw hWF
  refine g_if_eq (tgt := 22) C dX10_knows_8 (by decide) (fun c3 => ?_) (fun c3 => ?_)
  · have hw := hw.1 c3
    refine g_iconst (v := (-1 : Int32)) C dX10_knows_22 (by decide) ?_
    exact g_iret C dX10_knows_23 hr ⟨hw, rfl, rfl, rfl, hWF⟩
  · have hw := hw.2 c3
    refine g_aload_n C dX10_knows_11 rfl 0 rfl ?_
    refine g_getQ C dX10_knows_12 ft_216 z0 (hWF.q z0 0 rfl) ?_
    have zz4 := hWF.r z0 0 rfl
    refine g_iload_n C dX10_knows_15 rfl 2 rfl ?_
    refine g_callVi (As := [.int x2]) C dX10_knows_16 ft_46 zz4 ft_225 ft_226 (met_X1_isSum l hWF zz4 hw) ⟨rfl, rfl, Nat.le_of_ble_eq_true rfl, Nat.le_of_ble_eq_true rfl⟩ ⟨Nat.zero_le _, Nat.zero_le _⟩ rfl rfl (Nat.le_of_ble_eq_true rfl) (fun r5 I5 J5 Q5 hp => ?_)
    obtain ⟨hw, eI, eJ, eQ, hWF⟩ := hp
    have eI : I = I5 := Eq.symm eI
    subst eI
    have eJ : J = J5 := Eq.symm eJ
    subst eJ
    have eQ : Q = Q5 := Eq.symm eQ
    subst eQ
    try dsimp only at hw hWF
    refine g_if_ne (tgt := 24) C dX10_knows_19 (by decide) (fun c6 => ?_) (fun c6 => ?_)
    · have hw := hw.1 c6
      refine g_aload_n C dX10_knows_24 rfl 0 rfl ?_
      refine g_getQ C dX10_knows_25 ft_216 z0 (hWF.q z0 0 rfl) ?_
      have zz7 := hWF.r z0 0 rfl
      refine g_getQ C dX10_knows_28 ft_218 zz7 (hWF.q zz7 1 rfl) ?_
      have zz8 := hWF.r zz7 1 rfl
      refine g_iload_n C dX10_knows_31 rfl 1 rfl ?_
      have hrzz9 := rft_eS hw.1
      refine g_aaldS C dX10_knows_32 zz8 hw.1 (hWF.q zz8 _ hrzz9) ?_
      have zz9 := hWF.r zz8 _ hrzz9
      have hw := hw.2
      refine g_iload_n C dX10_knows_33 rfl 2 rfl ?_
      refine g_callVi (As := [.int x2]) C dX10_knows_34 ft_22 zz9 ft_224 ft_21 (met_X7_rest l hWF zz9 hw) ⟨rfl, rfl, Nat.le_of_ble_eq_true rfl, Nat.le_of_ble_eq_true rfl⟩ ⟨Nat.zero_le _, Nat.zero_le _⟩ rfl rfl (Nat.le_of_ble_eq_true rfl) (fun r10 I10 J10 Q10 hp => ?_)
      obtain ⟨hw, eI, eJ, eQ, hWF⟩ := hp
      have eI : I = I10 := Eq.symm eI
      subst eI
      have eJ : J = J10 := Eq.symm eJ
      subst eJ
      have eQ : Q = Q10 := Eq.symm eQ
      subst eQ
      try dsimp only at hw hWF
      refine g_if_ne (tgt := 44) C dX10_knows_37 (by decide) (fun c11 => ?_) (fun c11 => ?_)
      · have hw := hw.1 c11
        refine g_iconst (v := (0 : Int32)) C dX10_knows_44 (by decide) ?_
        exact g_iret C dX10_knows_45 hr ⟨hw, rfl, rfl, rfl, hWF⟩
      · have hw := hw.2 c11
        refine g_iconst (v := (1 : Int32)) C dX10_knows_40 (by decide) ?_
        refine g_goto C dX10_knows_41 (tgt := 45) (by decide) ?_
        exact g_iret C dX10_knows_45 hr ⟨hw, rfl, rfl, rfl, hWF⟩
    · have hw := hw.2 c6
      refine g_iconst (v := (-1 : Int32)) C dX10_knows_22 (by decide) ?_
      exact g_iret C dX10_knows_23 hr ⟨hw, rfl, rfl, rfl, hWF⟩
def wp_X10_sends (I : KI) (Q : KQ) (h0 : Nat) (x1 : Int32) (post : Int32 → KI → Prop) : Prop := wp_X1_hasNode I (rq Q h0 0) x1 (fun r2 => ((¬ r2 = 0 → wp_X5_prepare I Q (rq Q h0 5) (rq Q h0 0) (I (rq Q h0 0) 5) (fun I7 => ((¬ (I7 (rq Q h0 0) 5) = (3 : Int32) → (vp_in x1 6 ∧ ((¬ (I7 (rq Q (rq Q h0 5) 1) x1.toNatClampNeg) = 0 → wp_X5_only I7 Q (rq Q h0 5) x1 (fun r14 => post r14 I7)) ∧ ((I7 (rq Q (rq Q h0 5) 1) x1.toNatClampNeg) = 0 → post (-4 : Int32) I7)))) ∧ ((I7 (rq Q h0 0) 5) = (3 : Int32) → (vp_in x1 6 ∧ post (I7 (rq Q (rq Q h0 5) 1) x1.toNatClampNeg) I7))))) ∧ (r2 = 0 → post (-1 : Int32) I)))
set_option maxHeartbeats 4000000 in
set_option maxRecDepth 100000 in
theorem met_X10_sends {Z : Nat → Prop} {A : Nat → Prop} {D : va_G} {D2 : Nat → ClassId} {ad : Nat → Nat} {N : Nat} {T : Nat → Nat × Nat} (l : Launch) {I : KI} {J : KJ} {Q : KQ} {h0 : Nat} {x1 : Int32} {post : Int32 → KI → Prop} (hWF : WF Z N T Q) (z0 : OKr Z N T h0 (10, 0)) (hw : wp_X10_sends I Q h0 x1 post) : Met l yX10_sends (.code yX10_sends cX10_sends 2 (some .int) :: BIG) ({ frames := 4, cells := 0, slots := 0, locals := 93 }) (Pr D D2 A ad N T I J Q [.ref (ad h0), .int x1]) (va_Qi (fun (r : Int32) (u : KS) => post r u.1 ∧ u.2.1 = J ∧ u.2.2 = Q ∧ WF Z N T u.2.2) (Bw D D2 ad N T) A) 0 0 A := by
  refine Met_GG (lv0 := [(0, .ref (ad h0)), (1, .int x1)]) (by decide +kernel) [.ref (ad h0), .int x1] (Nat.le_of_ble_eq_true rfl) rfl ?_
  intro p e s m below meth c C hr
  have C : CX p s m [.ref (ad h0), .int x1].toArray meth c cX10_sends 2 RX10 A D D2 := C
  unfold wp_X10_sends at hw
  refine g_aload_n C dX10_sends_0 rfl 0 rfl ?_
  refine g_getQ C dX10_sends_1 ft_216 z0 (hWF.q z0 0 rfl) ?_
  have zz1 := hWF.r z0 0 rfl
  refine g_iload_n C dX10_sends_4 rfl 1 rfl ?_
  refine g_callVi (As := [.int x1]) C dX10_sends_5 ft_46 zz1 ft_227 ft_228 (met_X1_hasNode l hWF zz1 hw) ⟨rfl, rfl, Nat.le_of_ble_eq_true rfl, Nat.le_of_ble_eq_true rfl⟩ ⟨Nat.zero_le _, Nat.zero_le _⟩ rfl rfl (Nat.le_of_ble_eq_true rfl) (fun r2 I2 J2 Q2 hp => ?_)
  obtain ⟨hw, eI, eJ, eQ, hWF⟩ := hp
  have eI : I = I2 := Eq.symm eI
  subst eI
  have eJ : J = J2 := Eq.symm eJ
  subst eJ
  have eQ : Q = Q2 := Eq.symm eQ
  subst eQ
  try dsimp only at hw hWF
  refine g_if_ne (tgt := 13) C dX10_sends_8 (by decide) (fun c3 => ?_) (fun c3 => ?_)
  · have hw := hw.1 c3
    refine g_aload_n C dX10_sends_13 rfl 0 rfl ?_
    refine g_getQ C dX10_sends_14 ft_233 z0 (hWF.q z0 5 rfl) ?_
    have zz4 := hWF.r z0 5 rfl
    refine g_aload_n C dX10_sends_17 rfl 0 rfl ?_
    refine g_getQ C dX10_sends_18 ft_216 z0 (hWF.q z0 0 rfl) ?_
    have zz5 := hWF.r z0 0 rfl
    refine g_aload_n C dX10_sends_21 rfl 0 rfl ?_
    refine g_getQ C dX10_sends_22 ft_216 z0 (hWF.q z0 0 rfl) ?_
    have zz6 := hWF.r z0 0 rfl
    refine g_getI C dX10_sends_25 ft_234 zz6 ?_
    refine g_callVv (As := [.ref (ad (rq Q h0 0)), .int (I (rq Q h0 0) 5)]) C dX10_sends_28 ft_37 zz4 ft_236 ft_166 (met_X5_prepare l hWF zz4 zz5 hw) ⟨rfl, rfl, Nat.le_of_ble_eq_true rfl, Nat.le_of_ble_eq_true rfl⟩ ⟨Nat.zero_le _, Nat.zero_le _⟩ rfl rfl (Nat.le_of_ble_eq_true rfl) (fun I7 J7 Q7 hp => ?_)
    obtain ⟨hw, eJ, eQ, hWF⟩ := hp
    have eJ : J = J7 := Eq.symm eJ
    subst eJ
    have eQ : Q = Q7 := Eq.symm eQ
    subst eQ
    try dsimp only at hw hWF
    refine g_aload_n C dX10_sends_31 rfl 0 rfl ?_
    refine g_getQ C dX10_sends_32 ft_216 z0 (hWF.q z0 0 rfl) ?_
    have zz8 := hWF.r z0 0 rfl
    refine g_getI C dX10_sends_35 ft_234 zz8 ?_
    refine g_iconst (v := (3 : Int32)) C dX10_sends_38 (by decide) ?_
    refine g_icmp_ne (tgt := 52) C dX10_sends_39 (by decide) (fun c9 => ?_) (fun c9 => ?_)
    · have hw := hw.1 c9
      refine g_aload_n C dX10_sends_52 rfl 0 rfl ?_
      refine g_getQ C dX10_sends_53 ft_233 z0 (hWF.q z0 5 rfl) ?_
      have zz10 := hWF.r z0 5 rfl
      refine g_getQ C dX10_sends_56 ft_239 zz10 (hWF.q zz10 1 rfl) ?_
      have zz11 := hWF.r zz10 1 rfl
      refine g_iload_n C dX10_sends_59 rfl 1 rfl ?_
      refine g_iald C dX10_sends_60 zz11 hw.1 ?_
      have hw := hw.2
      refine g_if_ne (tgt := 69) C dX10_sends_61 (by decide) (fun c12 => ?_) (fun c12 => ?_)
      · have hw := hw.1 c12
        refine g_aload_n C dX10_sends_69 rfl 0 rfl ?_
        refine g_getQ C dX10_sends_70 ft_233 z0 (hWF.q z0 5 rfl) ?_
        have zz13 := hWF.r z0 5 rfl
        refine g_iload_n C dX10_sends_73 rfl 1 rfl ?_
        refine g_callVi (As := [.int x1]) C dX10_sends_74 ft_37 zz13 ft_240 ft_164 (met_X5_only l hWF zz13 hw) ⟨rfl, rfl, Nat.le_of_ble_eq_true rfl, Nat.le_of_ble_eq_true rfl⟩ ⟨Nat.zero_le _, Nat.zero_le _⟩ rfl rfl (Nat.le_of_ble_eq_true rfl) (fun r14 I14 J14 Q14 hp => ?_)
        obtain ⟨hw, eI, eJ, eQ, hWF⟩ := hp
        have eI : I7 = I14 := Eq.symm eI
        subst eI
        have eJ : J = J14 := Eq.symm eJ
        subst eJ
        have eQ : Q = Q14 := Eq.symm eQ
        subst eQ
        try dsimp only at hw hWF
        exact g_iret C dX10_sends_77 hr ⟨hw, rfl, rfl, hWF⟩
      · have hw := hw.2 c12
        refine g_bipush (v := (-4 : Int32)) C dX10_sends_64 (by decide) ?_
        refine g_goto C dX10_sends_66 (tgt := 77) (by decide) ?_
        exact g_iret C dX10_sends_77 hr ⟨hw, rfl, rfl, hWF⟩
    · have hw := hw.2 c9
      refine g_aload_n C dX10_sends_42 rfl 0 rfl ?_
      refine g_getQ C dX10_sends_43 ft_233 z0 (hWF.q z0 5 rfl) ?_
      have zz15 := hWF.r z0 5 rfl
      refine g_getQ C dX10_sends_46 ft_239 zz15 (hWF.q zz15 1 rfl) ?_
      have zz16 := hWF.r zz15 1 rfl
      refine g_iload_n C dX10_sends_49 rfl 1 rfl ?_
      refine g_iald C dX10_sends_50 zz16 hw.1 ?_
      have hw := hw.2
      exact g_iret C dX10_sends_51 hr ⟨hw, rfl, rfl, hWF⟩
  · have hw := hw.2 c3
    refine g_iconst (v := (-1 : Int32)) C dX10_sends_11 (by decide) ?_
    exact g_iret C dX10_sends_12 hr ⟨hw, rfl, rfl, hWF⟩
def wp_X10_linked (I : KI) (Q : KQ) (h0 : Nat) (x1 : Int32) (x2 : Int32) (post : Int32 → Prop) : Prop := ((x1 < 0 → post (-1 : Int32)) ∧ (¬ x1 < 0 → wp_X1_hasNode I (rq Q h0 0) x2 (fun r3 => ((¬ r3 = 0 → wp_X1_neighbours I Q (rq Q h0 0) x1 x2 (fun r6 => post r6)) ∧ (r3 = 0 → post (-1 : Int32))))))
set_option maxHeartbeats 4000000 in
set_option maxRecDepth 100000 in
theorem met_X10_linked {Z : Nat → Prop} {A : Nat → Prop} {D : va_G} {D2 : Nat → ClassId} {ad : Nat → Nat} {N : Nat} {T : Nat → Nat × Nat} (l : Launch) {I : KI} {J : KJ} {Q : KQ} {h0 : Nat} {x1 : Int32} {x2 : Int32} {post : Int32 → Prop} (hWF : WF Z N T Q) (z0 : OKr Z N T h0 (10, 0)) (hw : wp_X10_linked I Q h0 x1 x2 post) : Met l yX10_linked (.code yX10_linked cX10_linked 3 (some .int) :: BIG) ({ frames := 3, cells := 0, slots := 0, locals := 66 }) (Pr D D2 A ad N T I J Q [.ref (ad h0), .int x1, .int x2]) (va_Qi (fun (r : Int32) (u : KS) => post r ∧ u.1 = I ∧ u.2.1 = J ∧ u.2.2 = Q ∧ WF Z N T u.2.2) (Bw D D2 ad N T) A) 0 0 A := by
  refine Met_GG (lv0 := [(0, .ref (ad h0)), (1, .int x1), (2, .int x2)]) (by decide +kernel) [.ref (ad h0), .int x1, .int x2] (Nat.le_of_ble_eq_true rfl) rfl ?_
  intro p e s m below meth c C hr
  have C : CX p s m [.ref (ad h0), .int x1, .int x2].toArray meth c cX10_linked 3 RX10 A D D2 := C
  unfold wp_X10_linked at hw
  refine g_iload_n C dX10_linked_0 rfl 1 rfl ?_
  refine g_if_lt (tgt := 15) C dX10_linked_1 (by decide) (fun c1 => ?_) (fun c1 => ?_)
  · have hw := hw.1 c1
    refine g_iconst (v := (-1 : Int32)) C dX10_linked_15 (by decide) ?_
    refine g_goto C dX10_linked_16 (tgt := 28) (by decide) ?_
    exact g_iret C dX10_linked_28 hr ⟨hw, rfl, rfl, rfl, hWF⟩
  · have hw := hw.2 c1
    refine g_aload_n C dX10_linked_4 rfl 0 rfl ?_
    refine g_getQ C dX10_linked_5 ft_216 z0 (hWF.q z0 0 rfl) ?_
    have zz2 := hWF.r z0 0 rfl
    refine g_iload_n C dX10_linked_8 rfl 2 rfl ?_
    refine g_callVi (As := [.int x2]) C dX10_linked_9 ft_46 zz2 ft_227 ft_228 (met_X1_hasNode l hWF zz2 hw) ⟨rfl, rfl, Nat.le_of_ble_eq_true rfl, Nat.le_of_ble_eq_true rfl⟩ ⟨Nat.zero_le _, Nat.zero_le _⟩ rfl rfl (Nat.le_of_ble_eq_true rfl) (fun r3 I3 J3 Q3 hp => ?_)
    obtain ⟨hw, eI, eJ, eQ, hWF⟩ := hp
    have eI : I = I3 := Eq.symm eI
    subst eI
    have eJ : J = J3 := Eq.symm eJ
    subst eJ
    have eQ : Q = Q3 := Eq.symm eQ
    subst eQ
    try dsimp only at hw hWF
    refine g_if_ne (tgt := 19) C dX10_linked_12 (by decide) (fun c4 => ?_) (fun c4 => ?_)
    · have hw := hw.1 c4
      refine g_aload_n C dX10_linked_19 rfl 0 rfl ?_
      refine g_getQ C dX10_linked_20 ft_216 z0 (hWF.q z0 0 rfl) ?_
      have zz5 := hWF.r z0 0 rfl
      refine g_iload_n C dX10_linked_23 rfl 1 rfl ?_
      refine g_iload_n C dX10_linked_24 rfl 2 rfl ?_
      refine g_callVi (As := [.int x1, .int x2]) C dX10_linked_25 ft_46 zz5 ft_232 ft_45 (met_X1_neighbours l hWF zz5 hw) ⟨rfl, rfl, Nat.le_of_ble_eq_true rfl, Nat.le_of_ble_eq_true rfl⟩ ⟨Nat.zero_le _, Nat.zero_le _⟩ rfl rfl (Nat.le_of_ble_eq_true rfl) (fun r6 I6 J6 Q6 hp => ?_)
      obtain ⟨hw, eI, eJ, eQ, hWF⟩ := hp
      have eI : I = I6 := Eq.symm eI
      subst eI
      have eJ : J = J6 := Eq.symm eJ
      subst eJ
      have eQ : Q = Q6 := Eq.symm eQ
      subst eQ
      try dsimp only at hw hWF
      exact g_iret C dX10_linked_28 hr ⟨hw, rfl, rfl, rfl, hWF⟩
    · have hw := hw.2 c4
      refine g_iconst (v := (-1 : Int32)) C dX10_linked_15 (by decide) ?_
      refine g_goto C dX10_linked_16 (tgt := 28) (by decide) ?_
      exact g_iret C dX10_linked_28 hr ⟨hw, rfl, rfl, rfl, hWF⟩
def wp_X10_count (I : KI) (Q : KQ) (h0 : Nat) (x1 : Int32) (post : Int32 → Prop) : Prop := ((x1 = 0 → post (I (rq Q h0 0) 3)) ∧ (x1 = 1 → post (I (rq Q h0 0) 4)) ∧ (x1 = 2 → post (I (rq Q h0 0) 5)) ∧ (x1 = 3 → post (I (rq Q h0 0) 6)) ∧ (x1 = 4 → post (I (rq Q h0 0) 7)) ∧ (x1 = 5 → post (I (rq Q (rq Q h0 0) 0) 1)) ∧ (x1 = 6 → wp_X1_ranks I Q (rq Q h0 0) (fun r16 => post r16)) ∧ (x1 = 7 → wp_X1_full I Q (rq Q h0 0) (fun r19 => post r19)) ∧ (x1 = 8 → post (I (rq Q h0 1) 1)) ∧ (¬ x1 = 0 → ¬ x1 = 1 → ¬ x1 = 2 → ¬ x1 = 3 → ¬ x1 = 4 → ¬ x1 = 5 → ¬ x1 = 6 → ¬ x1 = 7 → ¬ x1 = 8 → post (-1 : Int32)))
set_option maxHeartbeats 4000000 in
set_option maxRecDepth 100000 in
theorem met_X10_count {Z : Nat → Prop} {A : Nat → Prop} {D : va_G} {D2 : Nat → ClassId} {ad : Nat → Nat} {N : Nat} {T : Nat → Nat × Nat} (l : Launch) {I : KI} {J : KJ} {Q : KQ} {h0 : Nat} {x1 : Int32} {post : Int32 → Prop} (hWF : WF Z N T Q) (z0 : OKr Z N T h0 (10, 0)) (hw : wp_X10_count I Q h0 x1 post) : Met l yX10_count (.code yX10_count cX10_count 2 (some .int) :: BIG) ({ frames := 2, cells := 0, slots := 0, locals := 44 }) (Pr D D2 A ad N T I J Q [.ref (ad h0), .int x1]) (va_Qi (fun (r : Int32) (u : KS) => post r ∧ u.1 = I ∧ u.2.1 = J ∧ u.2.2 = Q ∧ WF Z N T u.2.2) (Bw D D2 ad N T) A) 0 0 A := by
  refine Met_GG (lv0 := [(0, .ref (ad h0)), (1, .int x1)]) (by decide +kernel) [.ref (ad h0), .int x1] (Nat.le_of_ble_eq_true rfl) rfl ?_
  intro p e s m below meth c C hr
  have C : CX p s m [.ref (ad h0), .int x1].toArray meth c cX10_count 2 RX10 A D D2 := C
  unfold wp_X10_count at hw
  refine g_iload_n C dX10_count_0 rfl 1 rfl ?_
  by_cases c1 : x1 = 0
  · have hw := hw.1 c1
    refine g_tableIn (tgt := 52) C dX10_count_1 (by rw [c1]; decide) (by rw [c1]; decide) (by rw [c1]; rfl) (by decide) ?_
    refine g_aload_n C dX10_count_52 rfl 0 rfl ?_
    refine g_getQ C dX10_count_53 ft_216 z0 (hWF.q z0 0 rfl) ?_
    have zz2 := hWF.r z0 0 rfl
    refine g_getI C dX10_count_56 ft_241 zz2 ?_
    exact g_iret C dX10_count_59 hr ⟨hw, rfl, rfl, rfl, hWF⟩
  by_cases c3 : x1 = 1
  · have hw := hw.2.1 c3
    refine g_tableIn (tgt := 60) C dX10_count_1 (by rw [c3]; decide) (by rw [c3]; decide) (by rw [c3]; rfl) (by decide) ?_
    refine g_aload_n C dX10_count_60 rfl 0 rfl ?_
    refine g_getQ C dX10_count_61 ft_216 z0 (hWF.q z0 0 rfl) ?_
    have zz4 := hWF.r z0 0 rfl
    refine g_getI C dX10_count_64 ft_242 zz4 ?_
    exact g_iret C dX10_count_67 hr ⟨hw, rfl, rfl, rfl, hWF⟩
  by_cases c5 : x1 = 2
  · have hw := hw.2.2.1 c5
    refine g_tableIn (tgt := 68) C dX10_count_1 (by rw [c5]; decide) (by rw [c5]; decide) (by rw [c5]; rfl) (by decide) ?_
    refine g_aload_n C dX10_count_68 rfl 0 rfl ?_
    refine g_getQ C dX10_count_69 ft_216 z0 (hWF.q z0 0 rfl) ?_
    have zz6 := hWF.r z0 0 rfl
    refine g_getI C dX10_count_72 ft_234 zz6 ?_
    exact g_iret C dX10_count_75 hr ⟨hw, rfl, rfl, rfl, hWF⟩
  by_cases c7 : x1 = 3
  · have hw := hw.2.2.2.1 c7
    refine g_tableIn (tgt := 76) C dX10_count_1 (by rw [c7]; decide) (by rw [c7]; decide) (by rw [c7]; rfl) (by decide) ?_
    refine g_aload_n C dX10_count_76 rfl 0 rfl ?_
    refine g_getQ C dX10_count_77 ft_216 z0 (hWF.q z0 0 rfl) ?_
    have zz8 := hWF.r z0 0 rfl
    refine g_getI C dX10_count_80 ft_243 zz8 ?_
    exact g_iret C dX10_count_83 hr ⟨hw, rfl, rfl, rfl, hWF⟩
  by_cases c9 : x1 = 4
  · have hw := hw.2.2.2.2.1 c9
    refine g_tableIn (tgt := 84) C dX10_count_1 (by rw [c9]; decide) (by rw [c9]; decide) (by rw [c9]; rfl) (by decide) ?_
    refine g_aload_n C dX10_count_84 rfl 0 rfl ?_
    refine g_getQ C dX10_count_85 ft_216 z0 (hWF.q z0 0 rfl) ?_
    have zz10 := hWF.r z0 0 rfl
    refine g_getI C dX10_count_88 ft_231 zz10 ?_
    exact g_iret C dX10_count_91 hr ⟨hw, rfl, rfl, rfl, hWF⟩
  by_cases c11 : x1 = 5
  · have hw := hw.2.2.2.2.2.1 c11
    refine g_tableIn (tgt := 92) C dX10_count_1 (by rw [c11]; decide) (by rw [c11]; decide) (by rw [c11]; rfl) (by decide) ?_
    refine g_aload_n C dX10_count_92 rfl 0 rfl ?_
    refine g_getQ C dX10_count_93 ft_216 z0 (hWF.q z0 0 rfl) ?_
    have zz12 := hWF.r z0 0 rfl
    refine g_getQ C dX10_count_96 ft_244 zz12 (hWF.q zz12 0 rfl) ?_
    have zz13 := hWF.r zz12 0 rfl
    refine g_getI C dX10_count_99 ft_245 zz13 ?_
    exact g_iret C dX10_count_102 hr ⟨hw, rfl, rfl, rfl, hWF⟩
  by_cases c14 : x1 = 6
  · have hw := hw.2.2.2.2.2.2.1 c14
    refine g_tableIn (tgt := 103) C dX10_count_1 (by rw [c14]; decide) (by rw [c14]; decide) (by rw [c14]; rfl) (by decide) ?_
    refine g_aload_n C dX10_count_103 rfl 0 rfl ?_
    refine g_getQ C dX10_count_104 ft_216 z0 (hWF.q z0 0 rfl) ?_
    have zz15 := hWF.r z0 0 rfl
    refine g_callVi (As := []) C dX10_count_107 ft_46 zz15 ft_246 ft_247 (met_X1_ranks l hWF zz15 hw) ⟨rfl, rfl, Nat.le_of_ble_eq_true rfl, Nat.le_of_ble_eq_true rfl⟩ ⟨Nat.zero_le _, Nat.zero_le _⟩ rfl rfl (Nat.le_of_ble_eq_true rfl) (fun r16 I16 J16 Q16 hp => ?_)
    obtain ⟨hw, eI, eJ, eQ, hWF⟩ := hp
    have eI : I = I16 := Eq.symm eI
    subst eI
    have eJ : J = J16 := Eq.symm eJ
    subst eJ
    have eQ : Q = Q16 := Eq.symm eQ
    subst eQ
    try dsimp only at hw hWF
    exact g_iret C dX10_count_110 hr ⟨hw, rfl, rfl, rfl, hWF⟩
  by_cases c17 : x1 = 7
  · have hw := hw.2.2.2.2.2.2.2.1 c17
    refine g_tableIn (tgt := 111) C dX10_count_1 (by rw [c17]; decide) (by rw [c17]; decide) (by rw [c17]; rfl) (by decide) ?_
    refine g_aload_n C dX10_count_111 rfl 0 rfl ?_
    refine g_getQ C dX10_count_112 ft_216 z0 (hWF.q z0 0 rfl) ?_
    have zz18 := hWF.r z0 0 rfl
    refine g_callVi (As := []) C dX10_count_115 ft_46 zz18 ft_248 ft_92 (met_X1_full l hWF zz18 hw) ⟨rfl, rfl, Nat.le_of_ble_eq_true rfl, Nat.le_of_ble_eq_true rfl⟩ ⟨Nat.zero_le _, Nat.zero_le _⟩ rfl rfl (Nat.le_of_ble_eq_true rfl) (fun r19 I19 J19 Q19 hp => ?_)
    obtain ⟨hw, eI, eJ, eQ, hWF⟩ := hp
    have eI : I = I19 := Eq.symm eI
    subst eI
    have eJ : J = J19 := Eq.symm eJ
    subst eJ
    have eQ : Q = Q19 := Eq.symm eQ
    subst eQ
    try dsimp only at hw hWF
    exact g_iret C dX10_count_118 hr ⟨hw, rfl, rfl, rfl, hWF⟩
  by_cases c20 : x1 = 8
  · have hw := hw.2.2.2.2.2.2.2.2.1 c20
    refine g_tableIn (tgt := 119) C dX10_count_1 (by rw [c20]; decide) (by rw [c20]; decide) (by rw [c20]; rfl) (by decide) ?_
    refine g_aload_n C dX10_count_119 rfl 0 rfl ?_
    refine g_getQ C dX10_count_120 ft_219 z0 (hWF.q z0 1 rfl) ?_
    have zz21 := hWF.r z0 1 rfl
    refine g_getI C dX10_count_123 ft_249 zz21 ?_
    exact g_iret C dX10_count_126 hr ⟨hw, rfl, rfl, rfl, hWF⟩
  have hw := hw.2.2.2.2.2.2.2.2.2 c1 c3 c5 c7 c9 c11 c14 c17 c20
  refine g_tableOut (tgt := 127) C dX10_count_1 (sw_out (fun v h1 h2 => by rcases (show v = 0 ∨ v = 1 ∨ v = 2 ∨ v = 3 ∨ v = 4 ∨ v = 5 ∨ v = 6 ∨ v = 7 ∨ v = 8 by omega) with rfl | rfl | rfl | rfl | rfl | rfl | rfl | rfl | rfl <;> first | exact c1 | exact c3 | exact c5 | exact c7 | exact c9 | exact c11 | exact c14 | exact c17 | exact c20)) (by decide) ?_
  refine g_iconst (v := (-1 : Int32)) C dX10_count_127 (by decide) ?_
  exact g_iret C dX10_count_128 hr ⟨hw, rfl, rfl, rfl, hWF⟩
def wp_X10_go (I : KI) (Q : KQ) (h0 : Nat) (x1 : Int32) (post : Int32 → KI → KQ → Prop) : Prop := ((x1 < (1 : Int32) → post (-1 : Int32) I Q) ∧ (¬ x1 < (1 : Int32) → ((x1 ≤ (20 : Int32) → wp_X1_allFull I Q (rq Q h0 0) (fun r4 => ((r4 = 0 → wp_X3_keep I Q (rq Q h0 1) (rq Q h0 0) (fun I8 Q8 => wp_X5_passUntilFull I8 Q8 (rq Q8 h0 5) (rq Q8 h0 0) x1 (fun r11 I11 => post r11 I11 Q8))) ∧ (¬ r4 = 0 → post (-2 : Int32) I Q)))) ∧ (¬ x1 ≤ (20 : Int32) → post (-1 : Int32) I Q))))
set_option maxHeartbeats 4000000 in
set_option maxRecDepth 100000 in
theorem met_X10_go {Z : Nat → Prop} {A : Nat → Prop} {D : va_G} {D2 : Nat → ClassId} {ad : Nat → Nat} {N : Nat} {T : Nat → Nat × Nat} (l : Launch) {I : KI} {J : KJ} {Q : KQ} {h0 : Nat} {x1 : Int32} {post : Int32 → KI → KQ → Prop} (hWF : WF Z N T Q) (z0 : OKr Z N T h0 (10, 0)) (hw : wp_X10_go I Q h0 x1 post) : Met l yX10_go (.code yX10_go cX10_go 2 (some .int) :: BIG) ({ frames := 6, cells := 0, slots := 0, locals := 142 }) (Pr D D2 A ad N T I J Q [.ref (ad h0), .int x1]) (va_Qi (fun (r : Int32) (u : KS) => post r u.1 u.2.2 ∧ u.2.1 = J ∧ WF Z N T u.2.2) (Bw D D2 ad N T) A) 0 0 A := by
  refine Met_GG (lv0 := [(0, .ref (ad h0)), (1, .int x1)]) (by decide +kernel) [.ref (ad h0), .int x1] (Nat.le_of_ble_eq_true rfl) rfl ?_
  intro p e s m below meth c C hr
  have C : CX p s m [.ref (ad h0), .int x1].toArray meth c cX10_go 2 RX10 A D D2 := C
  unfold wp_X10_go at hw
  refine g_iload_n C dX10_go_0 rfl 1 rfl ?_
  refine g_iconst (v := (1 : Int32)) C dX10_go_1 (by decide) ?_
  refine g_icmp_lt (tgt := 11) C dX10_go_2 (by decide) (fun c1 => ?_) (fun c1 => ?_)
  · have hw := hw.1 c1
    refine g_iconst (v := (-1 : Int32)) C dX10_go_11 (by decide) ?_
    exact g_iret C dX10_go_12 hr ⟨hw, rfl, hWF⟩
  · have hw := hw.2 c1
    refine g_iload_n C dX10_go_5 rfl 1 rfl ?_
    refine g_bipush (v := (20 : Int32)) C dX10_go_6 (by decide) ?_
    refine g_icmp_le (tgt := 13) C dX10_go_8 (by decide) (fun c2 => ?_) (fun c2 => ?_)
    · have hw := hw.1 c2
      refine g_aload_n C dX10_go_13 rfl 0 rfl ?_
      refine g_getQ C dX10_go_14 ft_216 z0 (hWF.q z0 0 rfl) ?_
      have zz3 := hWF.r z0 0 rfl
      refine g_callVi (As := []) C dX10_go_17 ft_46 zz3 ft_252 ft_170 (met_X1_allFull l hWF zz3 hw) ⟨rfl, rfl, Nat.le_of_ble_eq_true rfl, Nat.le_of_ble_eq_true rfl⟩ ⟨Nat.zero_le _, Nat.zero_le _⟩ rfl rfl (Nat.le_of_ble_eq_true rfl) (fun r4 I4 J4 Q4 hp => ?_)
      obtain ⟨hw, eI, eJ, eQ, hWF⟩ := hp
      have eI : I = I4 := Eq.symm eI
      subst eI
      have eJ : J = J4 := Eq.symm eJ
      subst eJ
      have eQ : Q = Q4 := Eq.symm eQ
      subst eQ
      try dsimp only at hw hWF
      refine g_if_eq (tgt := 26) C dX10_go_20 (by decide) (fun c5 => ?_) (fun c5 => ?_)
      · have hw := hw.1 c5
        refine g_aload_n C dX10_go_26 rfl 0 rfl ?_
        refine g_getQ C dX10_go_27 ft_219 z0 (hWF.q z0 1 rfl) ?_
        have zz6 := hWF.r z0 1 rfl
        refine g_aload_n C dX10_go_30 rfl 0 rfl ?_
        refine g_getQ C dX10_go_31 ft_216 z0 (hWF.q z0 0 rfl) ?_
        have zz7 := hWF.r z0 0 rfl
        refine g_callVv (As := [.ref (ad (rq Q h0 0))]) C dX10_go_34 ft_133 zz6 ft_222 ft_223 (met_X3_keep l hWF zz6 zz7 hw) ⟨rfl, rfl, Nat.le_of_ble_eq_true rfl, Nat.le_of_ble_eq_true rfl⟩ ⟨Nat.zero_le _, Nat.zero_le _⟩ rfl rfl (Nat.le_of_ble_eq_true rfl) (fun I8 J8 Q8 hp => ?_)
        obtain ⟨hw, eJ, hWF⟩ := hp
        have eJ : J = J8 := Eq.symm eJ
        subst eJ
        try dsimp only at hw hWF
        refine g_aload_n C dX10_go_37 rfl 0 rfl ?_
        refine g_getQ C dX10_go_38 ft_233 z0 (hWF.q z0 5 rfl) ?_
        have zz9 := hWF.r z0 5 rfl
        refine g_aload_n C dX10_go_41 rfl 0 rfl ?_
        refine g_getQ C dX10_go_42 ft_216 z0 (hWF.q z0 0 rfl) ?_
        have zz10 := hWF.r z0 0 rfl
        refine g_iload_n C dX10_go_45 rfl 1 rfl ?_
        refine g_callVi (As := [.ref (ad (rq Q8 h0 0)), .int x1]) C dX10_go_46 ft_37 zz9 ft_250 ft_251 (met_X5_passUntilFull l hWF zz9 zz10 hw) ⟨rfl, rfl, Nat.le_of_ble_eq_true rfl, Nat.le_of_ble_eq_true rfl⟩ ⟨Nat.zero_le _, Nat.zero_le _⟩ rfl rfl (Nat.le_of_ble_eq_true rfl) (fun r11 I11 J11 Q11 hp => ?_)
        obtain ⟨hw, eJ, eQ, hWF⟩ := hp
        have eJ : J = J11 := Eq.symm eJ
        subst eJ
        have eQ : Q8 = Q11 := Eq.symm eQ
        subst eQ
        try dsimp only at hw hWF
        exact g_iret C dX10_go_49 hr ⟨hw, rfl, hWF⟩
      · have hw := hw.2 c5
        refine g_bipush (v := (-2 : Int32)) C dX10_go_23 (by decide) ?_
        exact g_iret C dX10_go_25 hr ⟨hw, rfl, hWF⟩
    · have hw := hw.2 c2
      refine g_iconst (v := (-1 : Int32)) C dX10_go_11 (by decide) ?_
      exact g_iret C dX10_go_12 hr ⟨hw, rfl, hWF⟩
def wp_X10_gain (I : KI) (Q : KQ) (h0 : Nat) (x1 : Int32) (post : Int32 → KI → Prop) : Prop := ((x1 < 0 → post (-1 : Int32) I) ∧ (¬ x1 < 0 → ((x1 ≤ (2 : Int32) → wp_X5_prepare I Q (rq Q h0 5) (rq Q h0 0) (I (rq Q h0 0) 5) (fun I6 => ((¬ x1 = (1 : Int32) → ((¬ x1 = 0 → wp_X0_best I6 Q (rq Q h0 6) (rq Q h0 0) (rq Q h0 5) (fun r12 I12 => post r12 I12)) ∧ (x1 = 0 → wp_X0_present I6 Q (rq Q h0 6) (rq Q h0 0) (rq Q h0 5) (fun r16 I16 => post r16 I16)))) ∧ (x1 = (1 : Int32) → wp_X0_findGrowths I6 Q (rq Q h0 6) (rq Q h0 0) (rq Q h0 5) (fun I20 => wp_X0_worst I20 Q (rq Q h0 6) (I20 (rq Q h0 0) 3) (fun r23 I23 => post r23 I23)))))) ∧ (¬ x1 ≤ (2 : Int32) → post (-1 : Int32) I))))
set_option maxHeartbeats 4000000 in
set_option maxRecDepth 100000 in
theorem met_X10_gain {Z : Nat → Prop} {A : Nat → Prop} {D : va_G} {D2 : Nat → ClassId} {ad : Nat → Nat} {N : Nat} {T : Nat → Nat × Nat} (l : Launch) {I : KI} {J : KJ} {Q : KQ} {h0 : Nat} {x1 : Int32} {post : Int32 → KI → Prop} (hWF : WF Z N T Q) (z0 : OKr Z N T h0 (10, 0)) (hw : wp_X10_gain I Q h0 x1 post) : Met l yX10_gain (.code yX10_gain cX10_gain 2 (some .int) :: BIG) ({ frames := 6, cells := 0, slots := 0, locals := 143 }) (Pr D D2 A ad N T I J Q [.ref (ad h0), .int x1]) (va_Qi (fun (r : Int32) (u : KS) => post r u.1 ∧ u.2.1 = J ∧ u.2.2 = Q ∧ WF Z N T u.2.2) (Bw D D2 ad N T) A) 0 0 A := by
  refine Met_GG (lv0 := [(0, .ref (ad h0)), (1, .int x1)]) (by decide +kernel) [.ref (ad h0), .int x1] (Nat.le_of_ble_eq_true rfl) rfl ?_
  intro p e s m below meth c C hr
  have C : CX p s m [.ref (ad h0), .int x1].toArray meth c cX10_gain 2 RX10 A D D2 := C
  unfold wp_X10_gain at hw
  refine g_iload_n C dX10_gain_0 rfl 1 rfl ?_
  refine g_if_lt (tgt := 9) C dX10_gain_1 (by decide) (fun c1 => ?_) (fun c1 => ?_)
  · have hw := hw.1 c1
    refine g_iconst (v := (-1 : Int32)) C dX10_gain_9 (by decide) ?_
    exact g_iret C dX10_gain_10 hr ⟨hw, rfl, rfl, hWF⟩
  · have hw := hw.2 c1
    refine g_iload_n C dX10_gain_4 rfl 1 rfl ?_
    refine g_iconst (v := (2 : Int32)) C dX10_gain_5 (by decide) ?_
    refine g_icmp_le (tgt := 11) C dX10_gain_6 (by decide) (fun c2 => ?_) (fun c2 => ?_)
    · have hw := hw.1 c2
      refine g_aload_n C dX10_gain_11 rfl 0 rfl ?_
      refine g_getQ C dX10_gain_12 ft_233 z0 (hWF.q z0 5 rfl) ?_
      have zz3 := hWF.r z0 5 rfl
      refine g_aload_n C dX10_gain_15 rfl 0 rfl ?_
      refine g_getQ C dX10_gain_16 ft_216 z0 (hWF.q z0 0 rfl) ?_
      have zz4 := hWF.r z0 0 rfl
      refine g_aload_n C dX10_gain_19 rfl 0 rfl ?_
      refine g_getQ C dX10_gain_20 ft_216 z0 (hWF.q z0 0 rfl) ?_
      have zz5 := hWF.r z0 0 rfl
      refine g_getI C dX10_gain_23 ft_234 zz5 ?_
      refine g_callVv (As := [.ref (ad (rq Q h0 0)), .int (I (rq Q h0 0) 5)]) C dX10_gain_26 ft_37 zz3 ft_236 ft_166 (met_X5_prepare l hWF zz3 zz4 hw) ⟨rfl, rfl, Nat.le_of_ble_eq_true rfl, Nat.le_of_ble_eq_true rfl⟩ ⟨Nat.zero_le _, Nat.zero_le _⟩ rfl rfl (Nat.le_of_ble_eq_true rfl) (fun I6 J6 Q6 hp => ?_)
      obtain ⟨hw, eJ, eQ, hWF⟩ := hp
      have eJ : J = J6 := Eq.symm eJ
      subst eJ
      have eQ : Q = Q6 := Eq.symm eQ
      subst eQ
      try dsimp only at hw hWF
      refine g_iload_n C dX10_gain_29 rfl 1 rfl ?_
      refine g_iconst (v := (1 : Int32)) C dX10_gain_30 (by decide) ?_
      refine g_icmp_ne (tgt := 64) C dX10_gain_31 (by decide) (fun c7 => ?_) (fun c7 => ?_)
      · have hw := hw.1 c7
        refine g_iload_n C dX10_gain_64 rfl 1 rfl ?_
        refine g_if_ne (tgt := 86) C dX10_gain_65 (by decide) (fun c8 => ?_) (fun c8 => ?_)
        · have hw := hw.1 c8
          refine g_aload_n C dX10_gain_86 rfl 0 rfl ?_
          refine g_getQ C dX10_gain_87 ft_253 z0 (hWF.q z0 6 rfl) ?_
          have zz9 := hWF.r z0 6 rfl
          refine g_aload_n C dX10_gain_90 rfl 0 rfl ?_
          refine g_getQ C dX10_gain_91 ft_216 z0 (hWF.q z0 0 rfl) ?_
          have zz10 := hWF.r z0 0 rfl
          refine g_aload_n C dX10_gain_94 rfl 0 rfl ?_
          refine g_getQ C dX10_gain_95 ft_233 z0 (hWF.q z0 5 rfl) ?_
          have zz11 := hWF.r z0 5 rfl
          refine g_callVi (As := [.ref (ad (rq Q h0 0)), .ref (ad (rq Q h0 5))]) C dX10_gain_98 ft_53 zz9 ft_254 ft_255 (met_X0_best l hWF zz9 zz10 zz11 hw) ⟨rfl, rfl, Nat.le_of_ble_eq_true rfl, Nat.le_of_ble_eq_true rfl⟩ ⟨Nat.zero_le _, Nat.zero_le _⟩ rfl rfl (Nat.le_of_ble_eq_true rfl) (fun r12 I12 J12 Q12 hp => ?_)
          obtain ⟨hw, eJ, eQ, hWF⟩ := hp
          have eJ : J = J12 := Eq.symm eJ
          subst eJ
          have eQ : Q = Q12 := Eq.symm eQ
          subst eQ
          try dsimp only at hw hWF
          exact g_iret C dX10_gain_101 hr ⟨hw, rfl, rfl, hWF⟩
        · have hw := hw.2 c8
          refine g_aload_n C dX10_gain_68 rfl 0 rfl ?_
          refine g_getQ C dX10_gain_69 ft_253 z0 (hWF.q z0 6 rfl) ?_
          have zz13 := hWF.r z0 6 rfl
          refine g_aload_n C dX10_gain_72 rfl 0 rfl ?_
          refine g_getQ C dX10_gain_73 ft_216 z0 (hWF.q z0 0 rfl) ?_
          have zz14 := hWF.r z0 0 rfl
          refine g_aload_n C dX10_gain_76 rfl 0 rfl ?_
          refine g_getQ C dX10_gain_77 ft_233 z0 (hWF.q z0 5 rfl) ?_
          have zz15 := hWF.r z0 5 rfl
          refine g_callVi (As := [.ref (ad (rq Q h0 0)), .ref (ad (rq Q h0 5))]) C dX10_gain_80 ft_53 zz13 ft_256 ft_257 (met_X0_present l hWF zz13 zz14 zz15 hw) ⟨rfl, rfl, Nat.le_of_ble_eq_true rfl, Nat.le_of_ble_eq_true rfl⟩ ⟨Nat.zero_le _, Nat.zero_le _⟩ rfl rfl (Nat.le_of_ble_eq_true rfl) (fun r16 I16 J16 Q16 hp => ?_)
          obtain ⟨hw, eJ, eQ, hWF⟩ := hp
          have eJ : J = J16 := Eq.symm eJ
          subst eJ
          have eQ : Q = Q16 := Eq.symm eQ
          subst eQ
          try dsimp only at hw hWF
          refine g_goto C dX10_gain_83 (tgt := 101) (by decide) ?_
          exact g_iret C dX10_gain_101 hr ⟨hw, rfl, rfl, hWF⟩
      · have hw := hw.2 c7
        refine g_aload_n C dX10_gain_34 rfl 0 rfl ?_
        refine g_getQ C dX10_gain_35 ft_253 z0 (hWF.q z0 6 rfl) ?_
        have zz17 := hWF.r z0 6 rfl
        refine g_aload_n C dX10_gain_38 rfl 0 rfl ?_
        refine g_getQ C dX10_gain_39 ft_216 z0 (hWF.q z0 0 rfl) ?_
        have zz18 := hWF.r z0 0 rfl
        refine g_aload_n C dX10_gain_42 rfl 0 rfl ?_
        refine g_getQ C dX10_gain_43 ft_233 z0 (hWF.q z0 5 rfl) ?_
        have zz19 := hWF.r z0 5 rfl
        refine g_callVv (As := [.ref (ad (rq Q h0 0)), .ref (ad (rq Q h0 5))]) C dX10_gain_46 ft_53 zz17 ft_260 ft_261 (met_X0_findGrowths l hWF zz17 zz18 zz19 hw) ⟨rfl, rfl, Nat.le_of_ble_eq_true rfl, Nat.le_of_ble_eq_true rfl⟩ ⟨Nat.zero_le _, Nat.zero_le _⟩ rfl rfl (Nat.le_of_ble_eq_true rfl) (fun I20 J20 Q20 hp => ?_)
        obtain ⟨hw, eJ, eQ, hWF⟩ := hp
        have eJ : J = J20 := Eq.symm eJ
        subst eJ
        have eQ : Q = Q20 := Eq.symm eQ
        subst eQ
        try dsimp only at hw hWF
        refine g_aload_n C dX10_gain_49 rfl 0 rfl ?_
        refine g_getQ C dX10_gain_50 ft_253 z0 (hWF.q z0 6 rfl) ?_
        have zz21 := hWF.r z0 6 rfl
        refine g_aload_n C dX10_gain_53 rfl 0 rfl ?_
        refine g_getQ C dX10_gain_54 ft_216 z0 (hWF.q z0 0 rfl) ?_
        have zz22 := hWF.r z0 0 rfl
        refine g_getI C dX10_gain_57 ft_241 zz22 ?_
        refine g_callVi (As := [.int (I20 (rq Q h0 0) 3)]) C dX10_gain_60 ft_53 zz21 ft_258 ft_259 (met_X0_worst l hWF zz21 hw) ⟨rfl, rfl, Nat.le_of_ble_eq_true rfl, Nat.le_of_ble_eq_true rfl⟩ ⟨Nat.zero_le _, Nat.zero_le _⟩ rfl rfl (Nat.le_of_ble_eq_true rfl) (fun r23 I23 J23 Q23 hp => ?_)
        obtain ⟨hw, eJ, eQ, hWF⟩ := hp
        have eJ : J = J23 := Eq.symm eJ
        subst eJ
        have eQ : Q = Q23 := Eq.symm eQ
        subst eQ
        try dsimp only at hw hWF
        exact g_iret C dX10_gain_63 hr ⟨hw, rfl, rfl, hWF⟩
    · have hw := hw.2 c2
      refine g_iconst (v := (-1 : Int32)) C dX10_gain_9 (by decide) ?_
      exact g_iret C dX10_gain_10 hr ⟨hw, rfl, rfl, hWF⟩
def wp_X10_foreseen (I : KI) (Q : KQ) (h0 : Nat) (post : Int32 → KI → Prop) : Prop := wp_X1_take I Q (rq Q h0 4) (rq Q h0 0) (fun I3 => wp_X5_passUntilFull I3 Q (rq Q h0 5) (rq Q h0 4) (60 : Int32) (fun r6 I6 => wp_X1_allFull I6 Q (rq Q h0 4) (fun r8 => ((r8 = 0 → post (-4 : Int32) I6) ∧ (¬ r8 = 0 → post r6 I6)))))
set_option maxHeartbeats 4000000 in
set_option maxRecDepth 100000 in
theorem met_X10_foreseen {Z : Nat → Prop} {A : Nat → Prop} {D : va_G} {D2 : Nat → ClassId} {ad : Nat → Nat} {N : Nat} {T : Nat → Nat × Nat} (l : Launch) {I : KI} {J : KJ} {Q : KQ} {h0 : Nat} {post : Int32 → KI → Prop} (hWF : WF Z N T Q) (z0 : OKr Z N T h0 (10, 0)) (hw : wp_X10_foreseen I Q h0 post) : Met l yX10_foreseen (.code yX10_foreseen cX10_foreseen 2 (some .int) :: BIG) ({ frames := 6, cells := 0, slots := 0, locals := 142 }) (Pr D D2 A ad N T I J Q [.ref (ad h0)]) (va_Qi (fun (r : Int32) (u : KS) => post r u.1 ∧ u.2.1 = J ∧ u.2.2 = Q ∧ WF Z N T u.2.2) (Bw D D2 ad N T) A) 0 0 A := by
  refine Met_GG (lv0 := [(0, .ref (ad h0))]) (by decide +kernel) [.ref (ad h0)] (Nat.le_of_ble_eq_true rfl) rfl ?_
  intro p e s m below meth c C hr
  have C : CX p s m [.ref (ad h0)].toArray meth c cX10_foreseen 2 RX10 A D D2 := C
  unfold wp_X10_foreseen at hw
  refine g_aload_n C dX10_foreseen_0 rfl 0 rfl ?_
  refine g_getQ C dX10_foreseen_1 ft_262 z0 (hWF.q z0 4 rfl) ?_
  have zz1 := hWF.r z0 4 rfl
  refine g_aload_n C dX10_foreseen_4 rfl 0 rfl ?_
  refine g_getQ C dX10_foreseen_5 ft_216 z0 (hWF.q z0 0 rfl) ?_
  have zz2 := hWF.r z0 0 rfl
  refine g_callVv (As := [.ref (ad (rq Q h0 0))]) C dX10_foreseen_8 ft_46 zz1 ft_263 ft_130 (met_X1_take l hWF zz1 zz2 hw) ⟨rfl, rfl, Nat.le_of_ble_eq_true rfl, Nat.le_of_ble_eq_true rfl⟩ ⟨Nat.zero_le _, Nat.zero_le _⟩ rfl rfl (Nat.le_of_ble_eq_true rfl) (fun I3 J3 Q3 hp => ?_)
  obtain ⟨hw, eJ, eQ, hWF⟩ := hp
  have eJ : J = J3 := Eq.symm eJ
  subst eJ
  have eQ : Q = Q3 := Eq.symm eQ
  subst eQ
  try dsimp only at hw hWF
  refine g_aload_n C dX10_foreseen_11 rfl 0 rfl ?_
  refine g_getQ C dX10_foreseen_12 ft_233 z0 (hWF.q z0 5 rfl) ?_
  have zz4 := hWF.r z0 5 rfl
  refine g_aload_n C dX10_foreseen_15 rfl 0 rfl ?_
  refine g_getQ C dX10_foreseen_16 ft_262 z0 (hWF.q z0 4 rfl) ?_
  have zz5 := hWF.r z0 4 rfl
  refine g_bipush (v := (60 : Int32)) C dX10_foreseen_19 (by decide) ?_
  refine g_callVi (As := [.ref (ad (rq Q h0 4)), .int (60 : Int32)]) C dX10_foreseen_21 ft_37 zz4 ft_250 ft_251 (met_X5_passUntilFull l hWF zz4 zz5 hw) ⟨rfl, rfl, Nat.le_of_ble_eq_true rfl, Nat.le_of_ble_eq_true rfl⟩ ⟨Nat.zero_le _, Nat.zero_le _⟩ rfl rfl (Nat.le_of_ble_eq_true rfl) (fun r6 I6 J6 Q6 hp => ?_)
  obtain ⟨hw, eJ, eQ, hWF⟩ := hp
  have eJ : J = J6 := Eq.symm eJ
  subst eJ
  have eQ : Q = Q6 := Eq.symm eQ
  subst eQ
  try dsimp only at hw hWF
  refine g_istore_n (lv' := [(1, .int r6), (0, .ref (ad h0))]) C dX10_foreseen_24 rfl (by decide) rfl ?_
  refine g_aload_n C dX10_foreseen_25 rfl 1 rfl ?_
  refine g_getQ C dX10_foreseen_26 ft_262 z0 (hWF.q z0 4 rfl) ?_
  have zz7 := hWF.r z0 4 rfl
  refine g_callVi (As := []) C dX10_foreseen_29 ft_46 zz7 ft_252 ft_170 (met_X1_allFull l hWF zz7 hw) ⟨rfl, rfl, Nat.le_of_ble_eq_true rfl, Nat.le_of_ble_eq_true rfl⟩ ⟨Nat.zero_le _, Nat.zero_le _⟩ rfl rfl (Nat.le_of_ble_eq_true rfl) (fun r8 I8 J8 Q8 hp => ?_)
  obtain ⟨hw, eI, eJ, eQ, hWF⟩ := hp
  have eI : I6 = I8 := Eq.symm eI
  subst eI
  have eJ : J = J8 := Eq.symm eJ
  subst eJ
  have eQ : Q = Q8 := Eq.symm eQ
  subst eQ
  try dsimp only at hw hWF
  refine g_if_eq (tgt := 39) C dX10_foreseen_32 (by decide) (fun c9 => ?_) (fun c9 => ?_)
  · have hw := hw.1 c9
    refine g_bipush (v := (-4 : Int32)) C dX10_foreseen_39 (by decide) ?_
    exact g_iret C dX10_foreseen_41 hr ⟨hw, rfl, rfl, hWF⟩
  · have hw := hw.2 c9
    refine g_iload_n C dX10_foreseen_35 rfl 0 rfl ?_
    refine g_goto C dX10_foreseen_36 (tgt := 41) (by decide) ?_
    exact g_iret C dX10_foreseen_41 hr ⟨hw, rfl, rfl, hWF⟩
def wp_X10_views (I : KI) (Q : KQ) (h0 : Nat) (x1 : Int32) (post : Int32 → KI → Prop) : Prop := ((x1 < 0 → post (-1 : Int32) I) ∧ (¬ x1 < 0 → ((x1 ≤ (9 : Int32) → wp_X9_behind I Q (rq Q h0 7) (rq Q h0 0) x1 (fun r5 I5 => post r5 I5)) ∧ (¬ x1 ≤ (9 : Int32) → post (-1 : Int32) I))))
set_option maxHeartbeats 4000000 in
set_option maxRecDepth 100000 in
theorem met_X10_views {Z : Nat → Prop} {A : Nat → Prop} {D : va_G} {D2 : Nat → ClassId} {ad : Nat → Nat} {N : Nat} {T : Nat → Nat × Nat} (l : Launch) {I : KI} {J : KJ} {Q : KQ} {h0 : Nat} {x1 : Int32} {post : Int32 → KI → Prop} (hWF : WF Z N T Q) (z0 : OKr Z N T h0 (10, 0)) (hw : wp_X10_views I Q h0 x1 post) : Met l yX10_views (.code yX10_views cX10_views 2 (some .int) :: BIG) ({ frames := 6, cells := 0, slots := 0, locals := 143 }) (Pr D D2 A ad N T I J Q [.ref (ad h0), .int x1]) (va_Qi (fun (r : Int32) (u : KS) => post r u.1 ∧ u.2.1 = J ∧ u.2.2 = Q ∧ WF Z N T u.2.2) (Bw D D2 ad N T) A) 0 0 A := by
  refine Met_GG (lv0 := [(0, .ref (ad h0)), (1, .int x1)]) (by decide +kernel) [.ref (ad h0), .int x1] (Nat.le_of_ble_eq_true rfl) rfl ?_
  intro p e s m below meth c C hr
  have C : CX p s m [.ref (ad h0), .int x1].toArray meth c cX10_views 2 RX10 A D D2 := C
  unfold wp_X10_views at hw
  refine g_iload_n C dX10_views_0 rfl 1 rfl ?_
  refine g_if_lt (tgt := 10) C dX10_views_1 (by decide) (fun c1 => ?_) (fun c1 => ?_)
  · have hw := hw.1 c1
    refine g_iconst (v := (-1 : Int32)) C dX10_views_10 (by decide) ?_
    refine g_goto C dX10_views_11 (tgt := 26) (by decide) ?_
    exact g_iret C dX10_views_26 hr ⟨hw, rfl, rfl, hWF⟩
  · have hw := hw.2 c1
    refine g_iload_n C dX10_views_4 rfl 1 rfl ?_
    refine g_bipush (v := (9 : Int32)) C dX10_views_5 (by decide) ?_
    refine g_icmp_le (tgt := 14) C dX10_views_7 (by decide) (fun c2 => ?_) (fun c2 => ?_)
    · have hw := hw.1 c2
      refine g_aload_n C dX10_views_14 rfl 0 rfl ?_
      refine g_getQ C dX10_views_15 ft_264 z0 (hWF.q z0 7 rfl) ?_
      have zz3 := hWF.r z0 7 rfl
      refine g_aload_n C dX10_views_18 rfl 0 rfl ?_
      refine g_getQ C dX10_views_19 ft_216 z0 (hWF.q z0 0 rfl) ?_
      have zz4 := hWF.r z0 0 rfl
      refine g_iload_n C dX10_views_22 rfl 1 rfl ?_
      refine g_callVi (As := [.ref (ad (rq Q h0 0)), .int x1]) C dX10_views_23 ft_205 zz3 ft_265 ft_266 (met_X9_behind l hWF zz3 zz4 hw) ⟨rfl, rfl, Nat.le_of_ble_eq_true rfl, Nat.le_of_ble_eq_true rfl⟩ ⟨Nat.zero_le _, Nat.zero_le _⟩ rfl rfl (Nat.le_of_ble_eq_true rfl) (fun r5 I5 J5 Q5 hp => ?_)
      obtain ⟨hw, eJ, eQ, hWF⟩ := hp
      have eJ : J = J5 := Eq.symm eJ
      subst eJ
      have eQ : Q = Q5 := Eq.symm eQ
      subst eQ
      try dsimp only at hw hWF
      exact g_iret C dX10_views_26 hr ⟨hw, rfl, rfl, hWF⟩
    · have hw := hw.2 c2
      refine g_iconst (v := (-1 : Int32)) C dX10_views_10 (by decide) ?_
      refine g_goto C dX10_views_11 (tgt := 26) (by decide) ?_
      exact g_iret C dX10_views_26 hr ⟨hw, rfl, rfl, hWF⟩
def wp_X10_view (I : KI) (Q : KQ) (h0 : Nat) (x1 : Int32) (x2 : Int32) (post : Int32 → KI → Prop) : Prop := ((x1 < 0 → post (-1 : Int32) I) ∧ (¬ x1 < 0 → (((9 : Int32) < x1 → post (-1 : Int32) I) ∧ (¬ (9 : Int32) < x1 → wp_X1_hasNode I (rq Q h0 0) x2 (fun r4 => ((¬ r4 = 0 → wp_X9_behind I Q (rq Q h0 7) (rq Q h0 0) x1 (fun r8 I8 => (vp_in x2 6 ∧ post (I8 (rq Q (rq Q h0 7) 0) x2.toNatClampNeg) I8))) ∧ (r4 = 0 → post (-1 : Int32) I)))))))
set_option maxHeartbeats 4000000 in
set_option maxRecDepth 100000 in
theorem met_X10_view {Z : Nat → Prop} {A : Nat → Prop} {D : va_G} {D2 : Nat → ClassId} {ad : Nat → Nat} {N : Nat} {T : Nat → Nat × Nat} (l : Launch) {I : KI} {J : KJ} {Q : KQ} {h0 : Nat} {x1 : Int32} {x2 : Int32} {post : Int32 → KI → Prop} (hWF : WF Z N T Q) (z0 : OKr Z N T h0 (10, 0)) (hw : wp_X10_view I Q h0 x1 x2 post) : Met l yX10_view (.code yX10_view cX10_view 3 (some .int) :: BIG) ({ frames := 6, cells := 0, slots := 0, locals := 143 }) (Pr D D2 A ad N T I J Q [.ref (ad h0), .int x1, .int x2]) (va_Qi (fun (r : Int32) (u : KS) => post r u.1 ∧ u.2.1 = J ∧ u.2.2 = Q ∧ WF Z N T u.2.2) (Bw D D2 ad N T) A) 0 0 A := by
  refine Met_GG (lv0 := [(0, .ref (ad h0)), (1, .int x1), (2, .int x2)]) (by decide +kernel) [.ref (ad h0), .int x1, .int x2] (Nat.le_of_ble_eq_true rfl) rfl ?_
  intro p e s m below meth c C hr
  have C : CX p s m [.ref (ad h0), .int x1, .int x2].toArray meth c cX10_view 3 RX10 A D D2 := C
  unfold wp_X10_view at hw
  refine g_iload_n C dX10_view_0 rfl 1 rfl ?_
  refine g_if_lt (tgt := 21) C dX10_view_1 (by decide) (fun c1 => ?_) (fun c1 => ?_)
  · have hw := hw.1 c1
    refine g_iconst (v := (-1 : Int32)) C dX10_view_21 (by decide) ?_
    exact g_iret C dX10_view_22 hr ⟨hw, rfl, rfl, hWF⟩
  · have hw := hw.2 c1
    refine g_iload_n C dX10_view_4 rfl 1 rfl ?_
    refine g_bipush (v := (9 : Int32)) C dX10_view_5 (by decide) ?_
    refine g_icmp_gt (tgt := 21) C dX10_view_7 (by decide) (fun c2 => ?_) (fun c2 => ?_)
    · have hw := hw.1 c2
      refine g_iconst (v := (-1 : Int32)) C dX10_view_21 (by decide) ?_
      exact g_iret C dX10_view_22 hr ⟨hw, rfl, rfl, hWF⟩
    · have hw := hw.2 c2
      refine g_aload_n C dX10_view_10 rfl 0 rfl ?_
      refine g_getQ C dX10_view_11 ft_216 z0 (hWF.q z0 0 rfl) ?_
      have zz3 := hWF.r z0 0 rfl
      refine g_iload_n C dX10_view_14 rfl 2 rfl ?_
      refine g_callVi (As := [.int x2]) C dX10_view_15 ft_46 zz3 ft_227 ft_228 (met_X1_hasNode l hWF zz3 hw) ⟨rfl, rfl, Nat.le_of_ble_eq_true rfl, Nat.le_of_ble_eq_true rfl⟩ ⟨Nat.zero_le _, Nat.zero_le _⟩ rfl rfl (Nat.le_of_ble_eq_true rfl) (fun r4 I4 J4 Q4 hp => ?_)
      obtain ⟨hw, eI, eJ, eQ, hWF⟩ := hp
      have eI : I = I4 := Eq.symm eI
      subst eI
      have eJ : J = J4 := Eq.symm eJ
      subst eJ
      have eQ : Q = Q4 := Eq.symm eQ
      subst eQ
      try dsimp only at hw hWF
      refine g_if_ne (tgt := 23) C dX10_view_18 (by decide) (fun c5 => ?_) (fun c5 => ?_)
      · have hw := hw.1 c5
        refine g_aload_n C dX10_view_23 rfl 0 rfl ?_
        refine g_getQ C dX10_view_24 ft_264 z0 (hWF.q z0 7 rfl) ?_
        have zz6 := hWF.r z0 7 rfl
        refine g_aload_n C dX10_view_27 rfl 0 rfl ?_
        refine g_getQ C dX10_view_28 ft_216 z0 (hWF.q z0 0 rfl) ?_
        have zz7 := hWF.r z0 0 rfl
        refine g_iload_n C dX10_view_31 rfl 1 rfl ?_
        refine g_callVi (As := [.ref (ad (rq Q h0 0)), .int x1]) C dX10_view_32 ft_205 zz6 ft_265 ft_266 (met_X9_behind l hWF zz6 zz7 hw) ⟨rfl, rfl, Nat.le_of_ble_eq_true rfl, Nat.le_of_ble_eq_true rfl⟩ ⟨Nat.zero_le _, Nat.zero_le _⟩ rfl rfl (Nat.le_of_ble_eq_true rfl) (fun r8 I8 J8 Q8 hp => ?_)
        obtain ⟨hw, eJ, eQ, hWF⟩ := hp
        have eJ : J = J8 := Eq.symm eJ
        subst eJ
        have eQ : Q = Q8 := Eq.symm eQ
        subst eQ
        try dsimp only at hw hWF
        refine g_pop C dX10_view_35 rfl ?_
        refine g_aload_n C dX10_view_36 rfl 0 rfl ?_
        refine g_getQ C dX10_view_37 ft_264 z0 (hWF.q z0 7 rfl) ?_
        have zz9 := hWF.r z0 7 rfl
        refine g_getQ C dX10_view_40 ft_267 zz9 (hWF.q zz9 0 rfl) ?_
        have zz10 := hWF.r zz9 0 rfl
        refine g_iload_n C dX10_view_43 rfl 2 rfl ?_
        refine g_iald C dX10_view_44 zz10 hw.1 ?_
        have hw := hw.2
        exact g_iret C dX10_view_45 hr ⟨hw, rfl, rfl, hWF⟩
      · have hw := hw.2 c5
        refine g_iconst (v := (-1 : Int32)) C dX10_view_21 (by decide) ?_
        exact g_iret C dX10_view_22 hr ⟨hw, rfl, rfl, hWF⟩
