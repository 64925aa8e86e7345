def wp_X0_worst_L4 (f1_1 : Int32) (k19 : Int32 → Prop) : Nat → Int32 → Int32 → Prop
  | 0, _, _ => False
  | n4 + 1, x2_1, x3_1 => ((f1_1 ≤ x3_1 → k19 x2_1) ∧ (¬ f1_1 ≤ x3_1 → wp_X0_worst_L4 f1_1 k19 n4 (x2_1 * f1_1) (x3_1 + (1 : Int32))))
def wp_X0_worst_L25 (Qf_5 : KQ) (f0_5 : Nat) (f1_5 : Int32) (f2_5 : Int32) (post : Int32 → KI → Prop) : Nat → KI → Int32 → Int32 → Prop
  | 0, _, _, _ => False
  | n25 + 1, I_5, x3_5, x4_5 => ((f2_5 ≤ x4_5 → post x3_5 I_5) ∧ (¬ f2_5 ≤ x4_5 → wp_X0_grow I_5 Qf_5 f0_5 x4_5 f1_5 (fun I7 => wp_X0_byTree I7 Qf_5 f0_5 f1_5 (fun r8 => wp_X0_worst_L25 Qf_5 f0_5 f1_5 f2_5 post n25 I7 (if r8 < x3_5 then r8 else x3_5) (x4_5 + (1 : Int32))))))
def wp_X0_worst (I : KI) (Q : KQ) (h0 : Nat) (x1 : Int32) (post : Int32 → KI → Prop) : Prop := (∃ q4, wp_X0_worst_L4 x1 (fun x2_4 => (∃ q25, wp_X0_worst_L25 Q h0 x1 x2_4 post q25 I (48 : Int32) (0 : Int32))) q4 (1 : Int32) (2 : Int32))
set_option maxHeartbeats 4000000 in
set_option maxRecDepth 100000 in
theorem met_X0_worst {Z : Nat → Prop} {A : Nat → Prop} {D : va_G} {D2 : Nat → ClassId} {ad : Nat → Nat} {N : Nat} {T : Nat → Nat × Nat} (l : Launch) {I : KI} {J : KJ} {Q : KQ} {h0 : Nat} {x1 : Int32} {post : Int32 → KI → Prop} (hWF : WF Z N T Q) (z0 : OKr Z N T h0 (0, 0)) (hw : wp_X0_worst I Q h0 x1 post) : Met l yX0_worst (.code yX0_worst cX0_worst 5 (some .int) :: BIG) ({ frames := 4, cells := 0, slots := 0, locals := 93 }) (Pr D D2 A ad N T I J Q [.ref (ad h0), .int x1]) (va_Qi (fun (r : Int32) (u : KS) => post r u.1 ∧ u.2.1 = J ∧ u.2.2 = Q ∧ WF Z N T u.2.2) (Bw D D2 ad N T) A) 0 0 A := by
  refine Met_GG (lv0 := [(0, .ref (ad h0)), (1, .int x1)]) (by decide +kernel) [.ref (ad h0), .int x1] (Nat.le_of_ble_eq_true rfl) rfl ?_
  intro p e s m below meth c C hr
  have C : CX p s m [.ref (ad h0), .int x1].toArray meth c cX0_worst 5 RX0 A D D2 := C
  unfold wp_X0_worst at hw
  refine g_iconst (v := (1 : Int32)) C dX0_worst_0 (by decide) ?_
  refine g_istore_n (lv' := [(2, .int (1 : Int32)), (0, .ref (ad h0)), (1, .int x1)]) C dX0_worst_1 rfl (by decide) rfl ?_
  refine g_iconst (v := (2 : Int32)) C dX0_worst_2 (by decide) ?_
  refine g_istore_n (lv' := [(3, .int (2 : Int32)), (2, .int (1 : Int32)), (0, .ref (ad h0)), (1, .int x1)]) C dX0_worst_3 rfl (by decide) rfl ?_
  have K19_u3 : ∀ (x2_4 : Int32), ((∃ q25, wp_X0_worst_L25 Q h0 x1 x2_4 post q25 I (48 : Int32) (0 : Int32))) → WF Z N T Q → GG p l e ({ frames := 4, cells := 0, slots := 0, locals := 93 }) s m [.ref (ad h0), .int x1].toArray below meth c 5 A D D2 0 0 (MQ below (va_Qi (fun (r : Int32) (u : KS) => post r u.1 ∧ u.2.1 = J ∧ u.2.2 = Q ∧ WF Z N T u.2.2) (Bw D D2 ad N T) A) [.ref (ad h0), .int x1].toArray s 0 0 A) ad N T I J Q 19 [(0, .ref (ad h0)), (1, .int x1), (2, .int x2_4)] [] := by
    intro x2_4 hw hWF
    refine g_bipush (v := (48 : Int32)) C dX0_worst_19 (by decide) ?_
    refine g_istore_n (lv' := [(3, .int (48 : Int32)), (0, .ref (ad h0)), (1, .int x1), (2, .int x2_4)]) C dX0_worst_21 rfl (by decide) rfl ?_
    refine g_iconst (v := (0 : Int32)) C dX0_worst_22 (by decide) ?_
    refine g_istore (lv' := [(4, .int (0 : Int32)), (3, .int (48 : Int32)), (0, .ref (ad h0)), (1, .int x1), (2, .int x2_4)]) C dX0_worst_23 (by decide) rfl ?_
    have L25_u9 : ∀ (n25 : Nat) (I_5 : KI) (x3_5 : Int32) (x4_5 : Int32), wp_X0_worst_L25 Q h0 x1 x2_4 post n25 I_5 x3_5 x4_5 → WF Z N T Q → GG p l e ({ frames := 4, cells := 0, slots := 0, locals := 93 }) s m [.ref (ad h0), .int x1].toArray below meth c 5 A D D2 0 0 (MQ below (va_Qi (fun (r : Int32) (u : KS) => post r u.1 ∧ u.2.1 = J ∧ u.2.2 = Q ∧ WF Z N T u.2.2) (Bw D D2 ad N T) A) [.ref (ad h0), .int x1].toArray s 0 0 A) ad N T I_5 J Q 25 [(0, .ref (ad h0)), (1, .int x1), (2, .int x2_4), (3, .int x3_5), (4, .int x4_5)] [] := by
      intro n25
      induction n25 with
      | zero => intro I_5 x3_5 x4_5 hw; exact hw.elim
      | succ n25 ih_u9 =>
        intro I_5 x3_5 x4_5 hw hWF
        unfold wp_X0_worst_L25 at hw
        refine g_iload C dX0_worst_25 4 rfl ?_
        refine g_iload_n C dX0_worst_27 rfl 2 rfl ?_
        refine g_icmp_ge (tgt := 54) C dX0_worst_28 (by decide) (fun c11 => ?_) (fun c11 => ?_)
        · have hw := hw.1 c11
          refine g_iload_n C dX0_worst_54 rfl 3 rfl ?_
          exact g_iret C dX0_worst_55 hr ⟨hw, rfl, rfl, hWF⟩
        · have hw := hw.2 c11
          refine g_aload_n C dX0_worst_31 rfl 0 rfl ?_
          refine g_iload C dX0_worst_32 4 rfl ?_
          refine g_iload_n C dX0_worst_34 rfl 1 rfl ?_
          refine g_callVv (As := [.int x4_5, .int x1]) C dX0_worst_35 ft_53 z0 ft_62 ft_63 (met_X0_grow l hWF z0 hw) ⟨rfl, rfl, Nat.le_of_ble_eq_true rfl, Nat.le_of_ble_eq_true rfl⟩ ⟨Nat.zero_le _, Nat.zero_le _⟩ rfl rfl (Nat.le_of_ble_eq_true rfl) (fun I12 J12 Q12 hp => ?_)
          obtain ⟨hw, eJ, eQ, hWF⟩ := hp
          have eJ : J = J12 := Eq.symm eJ
          subst eJ
          have eQ : Q = Q12 := Eq.symm eQ
          subst eQ
          try dsimp only at hw hWF
          refine g_iload_n C dX0_worst_38 rfl 3 rfl ?_
          refine g_aload_n C dX0_worst_39 rfl 0 rfl ?_
          refine g_iload_n C dX0_worst_40 rfl 1 rfl ?_
          refine g_callVi (As := [.int x1]) C dX0_worst_41 ft_53 z0 ft_60 ft_61 (met_X0_byTree l hWF z0 hw) ⟨rfl, rfl, Nat.le_of_ble_eq_true rfl, Nat.le_of_ble_eq_true rfl⟩ ⟨Nat.zero_le _, Nat.zero_le _⟩ rfl rfl (Nat.le_of_ble_eq_true rfl) (fun r13 I13 J13 Q13 hp => ?_)
          obtain ⟨hw, eI, eJ, eQ, hWF⟩ := hp
          have eI : I12 = I13 := Eq.symm eI
          subst eI
          have eJ : J = J13 := Eq.symm eJ
          subst eJ
          have eQ : Q = Q13 := Eq.symm eQ
          subst eQ
          try dsimp only at hw hWF
          refine g_min C dX0_worst_44 ft_59 (by decide) (by decide) ⟨Nat.zero_le _, Nat.zero_le _⟩ ?_
          refine g_istore_n (lv' := [(3, .int (if r13 < x3_5 then r13 else x3_5)), (0, .ref (ad h0)), (1, .int x1), (2, .int x2_4), (4, .int x4_5)]) C dX0_worst_47 rfl (by decide) rfl ?_
          refine g_iinc (v := (x4_5 + (1 : Int32))) (lv' := [(4, .int (x4_5 + (1 : Int32))), (3, .int (if r13 < x3_5 then r13 else x3_5)), (0, .ref (ad h0)), (1, .int x1), (2, .int x2_4)]) C dX0_worst_48 (q := 4) rfl rfl (by decide) rfl ?_
          refine g_goto C dX0_worst_51 (tgt := 25) (by decide) ?_
          refine g_sub [2, 3, 4, 1, 0] rfl ?_
          exact ih_u9 I12 (if r13 < x3_5 then r13 else x3_5) (x4_5 + (1 : Int32)) hw hWF
    obtain ⟨n_u9, hw⟩ := hw
    refine g_sub [2, 3, 4, 1, 0] rfl ?_
    exact L25_u9 n_u9 I (48 : Int32) (0 : Int32) hw hWF
  have L4_u3 : ∀ (n4 : Nat) (x2_1 : Int32) (x3_1 : Int32), wp_X0_worst_L4 x1 (fun x2_4 => (∃ q25, wp_X0_worst_L25 Q h0 x1 x2_4 post q25 I (48 : Int32) (0 : Int32))) n4 x2_1 x3_1 → WF Z N T Q → GG p l e ({ frames := 4, cells := 0, slots := 0, locals := 93 }) s m [.ref (ad h0), .int x1].toArray below meth c 5 A D D2 0 0 (MQ below (va_Qi (fun (r : Int32) (u : KS) => post r u.1 ∧ u.2.1 = J ∧ u.2.2 = Q ∧ WF Z N T u.2.2) (Bw D D2 ad N T) A) [.ref (ad h0), .int x1].toArray s 0 0 A) ad N T I J Q 4 [(0, .ref (ad h0)), (1, .int x1), (2, .int x2_1), (3, .int x3_1)] [] := by
    intro n4
    induction n4 with
    | zero => intro x2_1 x3_1 hw; exact hw.elim
    | succ n4 ih_u3 =>
      intro x2_1 x3_1 hw hWF
      unfold wp_X0_worst_L4 at hw
      refine g_iload_n C dX0_worst_4 rfl 3 rfl ?_
      refine g_iload_n C dX0_worst_5 rfl 1 rfl ?_
      refine g_icmp_ge (tgt := 19) C dX0_worst_6 (by decide) (fun c15 => ?_) (fun c15 => ?_)
      · have hw := hw.1 c15
        refine g_sub [0, 1, 2] rfl ?_
        exact K19_u3 x2_1 hw hWF
      · have hw := hw.2 c15
        refine g_iload_n C dX0_worst_9 rfl 2 rfl ?_
        refine g_iload_n C dX0_worst_10 rfl 1 rfl ?_
        refine g_imul C dX0_worst_11 ?_
        refine g_istore_n (lv' := [(2, .int (x2_1 * x1)), (0, .ref (ad h0)), (1, .int x1), (3, .int x3_1)]) C dX0_worst_12 rfl (by decide) rfl ?_
        refine g_iinc (v := (x3_1 + (1 : Int32))) (lv' := [(3, .int (x3_1 + (1 : Int32))), (2, .int (x2_1 * x1)), (0, .ref (ad h0)), (1, .int x1)]) C dX0_worst_13 (q := 3) rfl rfl (by decide) rfl ?_
        refine g_goto C dX0_worst_16 (tgt := 4) (by decide) ?_
        refine g_sub [2, 3, 1, 0] rfl ?_
        exact ih_u3 (x2_1 * x1) (x3_1 + (1 : Int32)) hw hWF
  obtain ⟨n_u3, hw⟩ := hw
  refine g_sub [2, 3, 1, 0] rfl ?_
  exact L4_u3 n_u3 (1 : Int32) (2 : Int32) hw hWF
def wp_X0_findGrowths_L13 (Qf_3 : KQ) (f0_3 : Nat) (f1_3 : Nat) (f2_3 : Nat) (f3_3 : Int32) (k59 : KI → Prop) : Nat → KI → Int32 → Prop
  | 0, _, _ => False
  | n13 + 1, I_3, x4_3 => ((((1 : Int32) <<< ((I_3 f1_3 3) &&& 31)) ≤ x4_3 → k59 I_3) ∧ (¬ ((1 : Int32) <<< ((I_3 f1_3 3) &&& 31)) ≤ x4_3 → wp_X10_has x4_3 f3_3 (fun r5 => ((¬ r5 = 0 → wp_X0_findGrowths_L13 Qf_3 f0_3 f1_3 f2_3 f3_3 k59 n13 I_3 (x4_3 + (1 : Int32))) ∧ (r5 = 0 → wp_X5_growth I_3 Qf_3 f2_3 f1_3 f3_3 x4_3 (fun r8 I8 => (vp_in ((f3_3 * (64 : Int32)) + x4_3) 384 ∧ wp_X0_findGrowths_L13 Qf_3 f0_3 f1_3 f2_3 f3_3 k59 n13 (sti I8 (rq Qf_3 f0_3 0) ((f3_3 * (64 : Int32)) + x4_3).toNatClampNeg r8) (x4_3 + (1 : Int32)))))))))
def wp_X0_findGrowths_L2 (Qf_1 : KQ) (f0_1 : Nat) (f1_1 : Nat) (f2_1 : Nat) (post : KI → Prop) : Nat → KI → Int32 → Prop
  | 0, _, _ => False
  | n2 + 1, I_1, x3_1 => (((I_1 f1_1 3) ≤ x3_1 → post I_1) ∧ (¬ (I_1 f1_1 3) ≤ x3_1 → (∃ q13, wp_X0_findGrowths_L13 Qf_1 f0_1 f1_1 f2_1 x3_1 (fun I_10 => wp_X0_findGrowths_L2 Qf_1 f0_1 f1_1 f2_1 post n2 I_10 (x3_1 + (1 : Int32))) q13 I_1 (1 : Int32))))
def wp_X0_findGrowths (I : KI) (Q : KQ) (h0 : Nat) (h1 : Nat) (h2 : Nat) (post : KI → Prop) : Prop := (∃ q2, wp_X0_findGrowths_L2 Q h0 h1 h2 post q2 I (0 : Int32))
set_option maxHeartbeats 4000000 in
set_option maxRecDepth 100000 in
theorem met_X0_findGrowths {Z : Nat → Prop} {A : Nat → Prop} {D : va_G} {D2 : Nat → ClassId} {ad : Nat → Nat} {N : Nat} {T : Nat → Nat × Nat} (l : Launch) {I : KI} {J : KJ} {Q : KQ} {h0 : Nat} {h1 : Nat} {h2 : Nat} {post : KI → Prop} (hWF : WF Z N T Q) (z0 : OKr Z N T h0 (0, 0)) (z1 : OKr Z N T h1 (1, 0)) (z2 : OKr Z N T h2 (5, 0)) (hw : wp_X0_findGrowths I Q h0 h1 h2 post) : Met l yX0_findGrowths (.code yX0_findGrowths cX0_findGrowths 5 none :: BIG) ({ frames := 5, cells := 0, slots := 0, locals := 119 }) (Pr D D2 A ad N T I J Q [.ref (ad h0), .ref (ad h1), .ref (ad h2)]) (va_Qv (fun (u : KS) => post u.1 ∧ u.2.1 = J ∧ u.2.2 = Q ∧ WF Z N T u.2.2) (Bw D D2 ad N T) A) 0 0 A := by
  refine Met_GG (lv0 := [(0, .ref (ad h0)), (1, .ref (ad h1)), (2, .ref (ad h2))]) (by decide +kernel) [.ref (ad h0), .ref (ad h1), .ref (ad h2)] (Nat.le_of_ble_eq_true rfl) rfl ?_
  intro p e s m below meth c C hr
  have C : CX p s m [.ref (ad h0), .ref (ad h1), .ref (ad h2)].toArray meth c cX0_findGrowths 5 RX0 A D D2 := C
  unfold wp_X0_findGrowths at hw
  refine g_iconst (v := (0 : Int32)) C dX0_findGrowths_0 (by decide) ?_
  refine g_istore_n (lv' := [(3, .int (0 : Int32)), (0, .ref (ad h0)), (1, .ref (ad h1)), (2, .ref (ad h2))]) C dX0_findGrowths_1 rfl (by decide) rfl ?_
  have L2_u17 : ∀ (n2 : Nat) (I_1 : KI) (x3_1 : Int32), wp_X0_findGrowths_L2 Q h0 h1 h2 post n2 I_1 x3_1 → WF Z N T Q → GG p l e ({ frames := 5, cells := 0, slots := 0, locals := 119 }) s m [.ref (ad h0), .ref (ad h1), .ref (ad h2)].toArray below meth c 5 A D D2 0 0 (MQ below (va_Qv (fun (u : KS) => post u.1 ∧ u.2.1 = J ∧ u.2.2 = Q ∧ WF Z N T u.2.2) (Bw D D2 ad N T) A) [.ref (ad h0), .ref (ad h1), .ref (ad h2)].toArray s 0 0 A) ad N T I_1 J Q 2 [(0, .ref (ad h0)), (1, .ref (ad h1)), (2, .ref (ad h2)), (3, .int x3_1)] [] := by
    intro n2
    induction n2 with
    | zero => intro I_1 x3_1 hw; exact hw.elim
    | succ n2 ih_u17 =>
      intro I_1 x3_1 hw hWF
      unfold wp_X0_findGrowths_L2 at hw
      refine g_iload_n C dX0_findGrowths_2 rfl 3 rfl ?_
      refine g_aload_n C dX0_findGrowths_3 rfl 1 rfl ?_
      refine g_getI C dX0_findGrowths_4 ft_40 z1 ?_
      refine g_icmp_ge (tgt := 65) C dX0_findGrowths_7 (by decide) (fun c19 => ?_) (fun c19 => ?_)
      · have hw := hw.1 c19
        exact g_vret C dX0_findGrowths_65 hr ⟨hw, rfl, rfl, hWF⟩
      · have hw := hw.2 c19
        refine g_iconst (v := (1 : Int32)) C dX0_findGrowths_10 (by decide) ?_
        refine g_istore (lv' := [(4, .int (1 : Int32)), (0, .ref (ad h0)), (1, .ref (ad h1)), (2, .ref (ad h2)), (3, .int x3_1)]) C dX0_findGrowths_11 (by decide) rfl ?_
        have K59_u21 : ∀ (I_22 : KI), (wp_X0_findGrowths_L2 Q h0 h1 h2 post n2 I_22 (x3_1 + (1 : Int32))) → WF Z N T Q → GG p l e ({ frames := 5, cells := 0, slots := 0, locals := 119 }) s m [.ref (ad h0), .ref (ad h1), .ref (ad h2)].toArray below meth c 5 A D D2 0 0 (MQ below (va_Qv (fun (u : KS) => post u.1 ∧ u.2.1 = J ∧ u.2.2 = Q ∧ WF Z N T u.2.2) (Bw D D2 ad N T) A) [.ref (ad h0), .ref (ad h1), .ref (ad h2)].toArray s 0 0 A) ad N T I_22 J Q 59 [(0, .ref (ad h0)), (1, .ref (ad h1)), (2, .ref (ad h2)), (3, .int x3_1)] [] := by
          intro I_22 hw hWF
          refine g_iinc (v := (x3_1 + (1 : Int32))) (lv' := [(3, .int (x3_1 + (1 : Int32))), (0, .ref (ad h0)), (1, .ref (ad h1)), (2, .ref (ad h2))]) C dX0_findGrowths_59 (q := 3) rfl rfl (by decide) rfl ?_
          refine g_goto C dX0_findGrowths_62 (tgt := 2) (by decide) ?_
          refine g_sub [1, 2, 3, 0] rfl ?_
          exact ih_u17 I_22 (x3_1 + (1 : Int32)) hw hWF
        have L13_u21 : ∀ (n13 : Nat) (I_3 : KI) (x4_3 : Int32), wp_X0_findGrowths_L13 Q h0 h1 h2 x3_1 (fun I_22 => wp_X0_findGrowths_L2 Q h0 h1 h2 post n2 I_22 (x3_1 + (1 : Int32))) n13 I_3 x4_3 → WF Z N T Q → GG p l e ({ frames := 5, cells := 0, slots := 0, locals := 119 }) s m [.ref (ad h0), .ref (ad h1), .ref (ad h2)].toArray below meth c 5 A D D2 0 0 (MQ below (va_Qv (fun (u : KS) => post u.1 ∧ u.2.1 = J ∧ u.2.2 = Q ∧ WF Z N T u.2.2) (Bw D D2 ad N T) A) [.ref (ad h0), .ref (ad h1), .ref (ad h2)].toArray s 0 0 A) ad N T I_3 J Q 13 [(0, .ref (ad h0)), (1, .ref (ad h1)), (2, .ref (ad h2)), (3, .int x3_1), (4, .int x4_3)] [] := by
          intro n13
          induction n13 with
          | zero => intro I_3 x4_3 hw; exact hw.elim
          | succ n13 ih_u21 =>
            intro I_3 x4_3 hw hWF
            unfold wp_X0_findGrowths_L13 at hw
            refine g_iload C dX0_findGrowths_13 4 rfl ?_
            refine g_iconst (v := (1 : Int32)) C dX0_findGrowths_15 (by decide) ?_
            refine g_aload_n C dX0_findGrowths_16 rfl 1 rfl ?_
            refine g_getI C dX0_findGrowths_17 ft_40 z1 ?_
            refine g_ishl C dX0_findGrowths_20 ?_
            refine g_icmp_ge (tgt := 59) C dX0_findGrowths_21 (by decide) (fun c24 => ?_) (fun c24 => ?_)
            · have hw := hw.1 c24
              refine g_sub [0, 1, 2, 3] rfl ?_
              exact K59_u21 I_3 hw hWF
            · have hw := hw.2 c24
              refine g_iload C dX0_findGrowths_24 4 rfl ?_
              refine g_iload_n C dX0_findGrowths_26 rfl 3 rfl ?_
              refine g_callSNi (As := [.int x4_3, .int x3_1]) C dX0_findGrowths_27 ft_64 ft_17 (met_X10_has l hWF  hw) ⟨rfl, rfl, Nat.le_of_ble_eq_true rfl, Nat.le_of_ble_eq_true rfl⟩ ⟨Nat.zero_le _, Nat.zero_le _⟩ rfl rfl (Nat.le_of_ble_eq_true rfl) (fun r25 I25 J25 Q25 hp => ?_)
              obtain ⟨hw, eI, eJ, eQ, hWF⟩ := hp
              have eI : I_3 = I25 := Eq.symm eI
              subst eI
              have eJ : J = J25 := Eq.symm eJ
              subst eJ
              have eQ : Q = Q25 := Eq.symm eQ
              subst eQ
              try dsimp only at hw hWF
              refine g_if_ne (tgt := 53) C dX0_findGrowths_30 (by decide) (fun c26 => ?_) (fun c26 => ?_)
              · have hw := hw.1 c26
                refine g_iinc (v := (x4_3 + (1 : Int32))) (lv' := [(4, .int (x4_3 + (1 : Int32))), (0, .ref (ad h0)), (1, .ref (ad h1)), (2, .ref (ad h2)), (3, .int x3_1)]) C dX0_findGrowths_53 (q := 4) rfl rfl (by decide) rfl ?_
                refine g_goto C dX0_findGrowths_56 (tgt := 13) (by decide) ?_
                refine g_sub [1, 2, 3, 4, 0] rfl ?_
                exact ih_u21 I_3 (x4_3 + (1 : Int32)) hw hWF
              · have hw := hw.2 c26
                refine g_aload_n C dX0_findGrowths_33 rfl 0 rfl ?_
                refine g_getQ C dX0_findGrowths_34 ft_58 z0 (hWF.q z0 0 rfl) ?_
                have zz27 := hWF.r z0 0 rfl
                refine g_iload_n C dX0_findGrowths_37 rfl 3 rfl ?_
                refine g_bipush (v := (64 : Int32)) C dX0_findGrowths_38 (by decide) ?_
                refine g_imul C dX0_findGrowths_40 ?_
                refine g_iload C dX0_findGrowths_41 4 rfl ?_
                refine g_iadd C dX0_findGrowths_43 ?_
                refine g_aload_n C dX0_findGrowths_44 rfl 2 rfl ?_
                refine g_aload_n C dX0_findGrowths_45 rfl 1 rfl ?_
                refine g_iload_n C dX0_findGrowths_46 rfl 3 rfl ?_
                refine g_iload C dX0_findGrowths_47 4 rfl ?_
                refine g_callVi (As := [.ref (ad h1), .int x3_1, .int x4_3]) C dX0_findGrowths_49 ft_37 z2 ft_42 ft_43 (met_X5_growth l hWF z2 z1 hw) ⟨rfl, rfl, Nat.le_of_ble_eq_true rfl, Nat.le_of_ble_eq_true rfl⟩ ⟨Nat.zero_le _, Nat.zero_le _⟩ rfl rfl (Nat.le_of_ble_eq_true rfl) (fun r28 I28 J28 Q28 hp => ?_)
                obtain ⟨hw, eJ, eQ, hWF⟩ := hp
                have eJ : J = J28 := Eq.symm eJ
                subst eJ
                have eQ : Q = Q28 := Eq.symm eQ
                subst eQ
                try dsimp only at hw hWF
                refine g_iast C dX0_findGrowths_52 zz27 hw.1 ?_
                have hw := hw.2
                refine g_iinc (v := (x4_3 + (1 : Int32))) (lv' := [(4, .int (x4_3 + (1 : Int32))), (0, .ref (ad h0)), (1, .ref (ad h1)), (2, .ref (ad h2)), (3, .int x3_1)]) C dX0_findGrowths_53 (q := 4) rfl rfl (by decide) rfl ?_
                refine g_goto C dX0_findGrowths_56 (tgt := 13) (by decide) ?_
                refine g_sub [1, 2, 3, 4, 0] rfl ?_
                exact ih_u21 (sti I28 (rq Q h0 0) ((x3_1 * (64 : Int32)) + x4_3).toNatClampNeg r28) (x4_3 + (1 : Int32)) hw hWF
        obtain ⟨n_u21, hw⟩ := hw
        refine g_sub [1, 2, 3, 4, 0] rfl ?_
        exact L13_u21 n_u21 I_1 (1 : Int32) hw hWF
  obtain ⟨n_u17, hw⟩ := hw
  refine g_sub [1, 2, 3, 0] rfl ?_
  exact L2_u17 n_u17 I (0 : Int32) hw hWF
def wp_X4_set (I : KI) (Q : KQ) (h0 : Nat) (x1 : Int32) (x2 : Int32) (x3 : Int32) (post : KI → Prop) : Prop := ((((x1 * (6 : Int32)) + x2) < 0 → post I) ∧ (¬ ((x1 * (6 : Int32)) + x2) < 0 → (((48 : Int32) ≤ ((x1 * (6 : Int32)) + x2) → post I) ∧ (¬ (48 : Int32) ≤ ((x1 * (6 : Int32)) + x2) → (vp_in ((x1 * (6 : Int32)) + x2) 48 ∧ post (sti I (rq Q h0 0) ((x1 * (6 : Int32)) + x2).toNatClampNeg x3))))))
set_option maxHeartbeats 4000000 in
set_option maxRecDepth 100000 in
theorem met_X4_set {Z : Nat → Prop} {A : Nat → Prop} {D : va_G} {D2 : Nat → ClassId} {ad : Nat → Nat} {N : Nat} {T : Nat → Nat × Nat} (l : Launch) {I : KI} {J : KJ} {Q : KQ} {h0 : Nat} {x1 : Int32} {x2 : Int32} {x3 : Int32} {post : KI → Prop} (hWF : WF Z N T Q) (z0 : OKr Z N T h0 (4, 0)) (hw : wp_X4_set I Q h0 x1 x2 x3 post) : Met l yX4_set (.code yX4_set cX4_set 5 none :: BIG) ({ frames := 0, cells := 0, slots := 0, locals := 0 }) (Pr D D2 A ad N T I J Q [.ref (ad h0), .int x1, .int x2, .int x3]) (va_Qv (fun (u : KS) => post u.1 ∧ u.2.1 = J ∧ u.2.2 = Q ∧ WF Z N T u.2.2) (Bw D D2 ad N T) A) 0 0 A := by
  refine Met_GG (lv0 := [(0, .ref (ad h0)), (1, .int x1), (2, .int x2), (3, .int x3)]) (by decide +kernel) [.ref (ad h0), .int x1, .int x2, .int x3] (Nat.le_of_ble_eq_true rfl) rfl ?_
  intro p e s m below meth c C hr
  have C : CX p s m [.ref (ad h0), .int x1, .int x2, .int x3].toArray meth c cX4_set 5 RX4 A D D2 := C
  unfold wp_X4_set at hw
  refine g_iload_n C dX4_set_0 rfl 1 rfl ?_
  refine g_bipush (v := (6 : Int32)) C dX4_set_1 (by decide) ?_
  refine g_imul C dX4_set_3 ?_
  refine g_iload_n C dX4_set_4 rfl 2 rfl ?_
  refine g_iadd C dX4_set_5 ?_
  refine g_istore (lv' := [(4, .int ((x1 * (6 : Int32)) + x2)), (0, .ref (ad h0)), (1, .int x1), (2, .int x2), (3, .int x3)]) C dX4_set_6 (by decide) rfl ?_
  refine g_iload C dX4_set_8 0 rfl ?_
  refine g_if_lt (tgt := 31) C dX4_set_10 (by decide) (fun c1 => ?_) (fun c1 => ?_)
  · have hw := hw.1 c1
    exact g_vret C dX4_set_31 hr ⟨hw, rfl, rfl, hWF⟩
  · have hw := hw.2 c1
    refine g_iload C dX4_set_13 0 rfl ?_
    refine g_aload_n C dX4_set_15 rfl 1 rfl ?_
    refine g_getQ C dX4_set_16 ft_2 z0 (hWF.q z0 0 rfl) ?_
    have zz2 := hWF.r z0 0 rfl
    refine g_alen (v := (48 : Int32)) C dX4_set_19 0 zz2 (by decide) rfl rfl ?_
    refine g_icmp_ge (tgt := 31) C dX4_set_20 (by decide) (fun c3 => ?_) (fun c3 => ?_)
    · have hw := hw.1 c3
      exact g_vret C dX4_set_31 hr ⟨hw, rfl, rfl, hWF⟩
    · have hw := hw.2 c3
      refine g_aload_n C dX4_set_23 rfl 1 rfl ?_
      refine g_getQ C dX4_set_24 ft_2 z0 (hWF.q z0 0 rfl) ?_
      have zz4 := hWF.r z0 0 rfl
      refine g_iload C dX4_set_27 0 rfl ?_
      refine g_iload_n C dX4_set_29 rfl 4 rfl ?_
      refine g_iast C dX4_set_30 zz4 hw.1 ?_
      have hw := hw.2
      exact g_vret C dX4_set_31 hr ⟨hw, rfl, rfl, hWF⟩
def wp_X4_begin_L2 (Qf_1 : KQ) (f0_1 : Nat) (f1_1 : Int32) (post : KI → Prop) : Nat → KI → Int32 → Prop
  | 0, _, _ => False
  | n2 + 1, I_1, x2_1 => (((6 : Int32) ≤ x2_1 → post (sti I_1 f0_1 1 (f1_1 + (1 : Int32)))) ∧ (¬ (6 : Int32) ≤ x2_1 → wp_X4_set I_1 Qf_1 f0_1 f1_1 x2_1 (0 : Int32) (fun I3 => wp_X4_begin_L2 Qf_1 f0_1 f1_1 post n2 I3 (x2_1 + (1 : Int32)))))
def wp_X4_begin (I : KI) (Q : KQ) (h0 : Nat) (x1 : Int32) (post : KI → Prop) : Prop := (∃ q2, wp_X4_begin_L2 Q h0 x1 post q2 I (0 : Int32))
set_option maxHeartbeats 4000000 in
set_option maxRecDepth 100000 in
theorem met_X4_begin {Z : Nat → Prop} {A : Nat → Prop} {D : va_G} {D2 : Nat → ClassId} {ad : Nat → Nat} {N : Nat} {T : Nat → Nat × Nat} (l : Launch) {I : KI} {J : KJ} {Q : KQ} {h0 : Nat} {x1 : Int32} {post : KI → Prop} (hWF : WF Z N T Q) (z0 : OKr Z N T h0 (4, 0)) (hw : wp_X4_begin I Q h0 x1 post) : Met l yX4_begin (.code yX4_begin cX4_begin 3 none :: BIG) ({ frames := 1, cells := 0, slots := 0, locals := 24 }) (Pr D D2 A ad N T I J Q [.ref (ad h0), .int x1]) (va_Qv (fun (u : KS) => post u.1 ∧ u.2.1 = J ∧ u.2.2 = Q ∧ WF Z N T u.2.2) (Bw D D2 ad N T) A) 0 0 A := by
  refine Met_GG (lv0 := [(0, .ref (ad h0)), (1, .int x1)]) (by decide +kernel) [.ref (ad h0), .int x1] (Nat.le_of_ble_eq_true rfl) rfl ?_
  intro p e s m below meth c C hr
  have C : CX p s m [.ref (ad h0), .int x1].toArray meth c cX4_begin 3 RX4 A D D2 := C
  unfold wp_X4_begin at hw
  refine g_iconst (v := (0 : Int32)) C dX4_begin_0 (by decide) ?_
  refine g_istore_n (lv' := [(2, .int (0 : Int32)), (0, .ref (ad h0)), (1, .int x1)]) C dX4_begin_1 rfl (by decide) rfl ?_
  have L2_u4 : ∀ (n2 : Nat) (I_1 : KI) (x2_1 : Int32), wp_X4_begin_L2 Q h0 x1 post n2 I_1 x2_1 → WF Z N T Q → GG p l e ({ frames := 1, cells := 0, slots := 0, locals := 24 }) s m [.ref (ad h0), .int x1].toArray below meth c 3 A D D2 0 0 (MQ below (va_Qv (fun (u : KS) => post u.1 ∧ u.2.1 = J ∧ u.2.2 = Q ∧ WF Z N T u.2.2) (Bw D D2 ad N T) A) [.ref (ad h0), .int x1].toArray s 0 0 A) ad N T I_1 J Q 2 [(0, .ref (ad h0)), (1, .int x1), (2, .int x2_1)] [] := by
    intro n2
    induction n2 with
    | zero => intro I_1 x2_1 hw; exact hw.elim
    | succ n2 ih_u4 =>
      intro I_1 x2_1 hw hWF
      unfold wp_X4_begin_L2 at hw
      refine g_iload_n C dX4_begin_2 rfl 2 rfl ?_
      refine g_bipush (v := (6 : Int32)) C dX4_begin_3 (by decide) ?_
      refine g_icmp_ge (tgt := 21) C dX4_begin_5 (by decide) (fun c6 => ?_) (fun c6 => ?_)
      · have hw := hw.1 c6
        refine g_aload_n C dX4_begin_21 rfl 0 rfl ?_
        refine g_iload_n C dX4_begin_22 rfl 1 rfl ?_
        refine g_iconst (v := (1 : Int32)) C dX4_begin_23 (by decide) ?_
        refine g_iadd C dX4_begin_24 ?_
        refine g_putI C dX4_begin_25 ft_65 z0 ?_
        exact g_vret C dX4_begin_28 hr ⟨hw, rfl, rfl, hWF⟩
      · have hw := hw.2 c6
        refine g_aload_n C dX4_begin_8 rfl 0 rfl ?_
        refine g_iload_n C dX4_begin_9 rfl 1 rfl ?_
        refine g_iload_n C dX4_begin_10 rfl 2 rfl ?_
        refine g_iconst (v := (0 : Int32)) C dX4_begin_11 (by decide) ?_
        refine g_callVv (As := [.int x1, .int x2_1, .int (0 : Int32)]) C dX4_begin_12 ft_10 z0 ft_66 ft_67 (met_X4_set l hWF z0 hw) ⟨rfl, rfl, Nat.le_of_ble_eq_true rfl, Nat.le_of_ble_eq_true rfl⟩ ⟨Nat.zero_le _, Nat.zero_le _⟩ rfl rfl (Nat.le_of_ble_eq_true rfl) (fun I7 J7 Q7 hp => ?_)
        obtain ⟨hw, eJ, eQ, hWF⟩ := hp
        have eJ : J = J7 := Eq.symm eJ
        subst eJ
        have eQ : Q = Q7 := Eq.symm eQ
        subst eQ
        try dsimp only at hw hWF
        refine g_iinc (v := (x2_1 + (1 : Int32))) (lv' := [(2, .int (x2_1 + (1 : Int32))), (0, .ref (ad h0)), (1, .int x1)]) C dX4_begin_15 (q := 2) rfl rfl (by decide) rfl ?_
        refine g_goto C dX4_begin_18 (tgt := 2) (by decide) ?_
        refine g_sub [1, 2, 0] rfl ?_
        exact ih_u4 I7 (x2_1 + (1 : Int32)) hw hWF
  obtain ⟨n_u4, hw⟩ := hw
  refine g_sub [1, 2, 0] rfl ?_
  exact L2_u4 n_u4 I (0 : Int32) hw hWF
def wp_X4_link (I : KI) (Q : KQ) (h0 : Nat) (x1 : Int32) (x2 : Int32) (x3 : Int32) (post : KI → Prop) : Prop := wp_X4_of I Q h0 x1 x2 (fun r1 => wp_X4_set I Q h0 x1 x2 (r1 ||| ((1 : Int32) <<< (x3 &&& 31))) (fun I2 => wp_X4_of I2 Q h0 x1 x3 (fun r3 => wp_X4_set I2 Q h0 x1 x3 (r3 ||| ((1 : Int32) <<< (x2 &&& 31))) (fun I4 => post I4))))
set_option maxHeartbeats 4000000 in
set_option maxRecDepth 100000 in
theorem met_X4_link {Z : Nat → Prop} {A : Nat → Prop} {D : va_G} {D2 : Nat → ClassId} {ad : Nat → Nat} {N : Nat} {T : Nat → Nat × Nat} (l : Launch) {I : KI} {J : KJ} {Q : KQ} {h0 : Nat} {x1 : Int32} {x2 : Int32} {x3 : Int32} {post : KI → Prop} (hWF : WF Z N T Q) (z0 : OKr Z N T h0 (4, 0)) (hw : wp_X4_link I Q h0 x1 x2 x3 post) : Met l yX4_link (.code yX4_link cX4_link 4 none :: BIG) ({ frames := 1, cells := 0, slots := 0, locals := 24 }) (Pr D D2 A ad N T I J Q [.ref (ad h0), .int x1, .int x2, .int x3]) (va_Qv (fun (u : KS) => post u.1 ∧ u.2.1 = J ∧ u.2.2 = Q ∧ WF Z N T u.2.2) (Bw D D2 ad N T) A) 0 0 A := by
  refine Met_GG (lv0 := [(0, .ref (ad h0)), (1, .int x1), (2, .int x2), (3, .int x3)]) (by decide +kernel) [.ref (ad h0), .int x1, .int x2, .int x3] (Nat.le_of_ble_eq_true rfl) rfl ?_
  intro p e s m below meth c C hr
  have C : CX p s m [.ref (ad h0), .int x1, .int x2, .int x3].toArray meth c cX4_link 4 RX4 A D D2 := C
  unfold wp_X4_link at hw
  refine g_aload_n C dX4_link_0 rfl 0 rfl ?_
  refine g_iload_n C dX4_link_1 rfl 1 rfl ?_
  refine g_iload_n C dX4_link_2 rfl 2 rfl ?_
  refine g_aload_n C dX4_link_3 rfl 0 rfl ?_
  refine g_iload_n C dX4_link_4 rfl 1 rfl ?_
  refine g_iload_n C dX4_link_5 rfl 2 rfl ?_
  refine g_callVi (As := [.int x1, .int x2]) C dX4_link_6 ft_10 z0 ft_68 ft_9 (met_X4_of l hWF z0 hw) ⟨rfl, rfl, Nat.le_of_ble_eq_true rfl, Nat.le_of_ble_eq_true rfl⟩ ⟨Nat.zero_le _, Nat.zero_le _⟩ rfl rfl (Nat.le_of_ble_eq_true rfl) (fun r1 I1 J1 Q1 hp => ?_)
  obtain ⟨hw, eI, eJ, eQ, hWF⟩ := hp
  have eI : I = I1 := Eq.symm eI
  subst eI
  have eJ : J = J1 := Eq.symm eJ
  subst eJ
  have eQ : Q = Q1 := Eq.symm eQ
  subst eQ
  try dsimp only at hw hWF
  refine g_iconst (v := (1 : Int32)) C dX4_link_9 (by decide) ?_
  refine g_iload_n C dX4_link_10 rfl 3 rfl ?_
  refine g_ishl C dX4_link_11 ?_
  refine g_ior C dX4_link_12 ?_
  refine g_callVv (As := [.int x1, .int x2, .int (r1 ||| ((1 : Int32) <<< (x3 &&& 31)))]) C dX4_link_13 ft_10 z0 ft_66 ft_67 (met_X4_set l hWF z0 hw) ⟨rfl, rfl, Nat.le_of_ble_eq_true rfl, Nat.le_of_ble_eq_true rfl⟩ ⟨Nat.zero_le _, Nat.zero_le _⟩ rfl rfl (Nat.le_of_ble_eq_true rfl) (fun I2 J2 Q2 hp => ?_)
  obtain ⟨hw, eJ, eQ, hWF⟩ := hp
  have eJ : J = J2 := Eq.symm eJ
  subst eJ
  have eQ : Q = Q2 := Eq.symm eQ
  subst eQ
  try dsimp only at hw hWF
  refine g_aload_n C dX4_link_16 rfl 0 rfl ?_
  refine g_iload_n C dX4_link_17 rfl 1 rfl ?_
  refine g_iload_n C dX4_link_18 rfl 3 rfl ?_
  refine g_aload_n C dX4_link_19 rfl 0 rfl ?_
  refine g_iload_n C dX4_link_20 rfl 1 rfl ?_
  refine g_iload_n C dX4_link_21 rfl 3 rfl ?_
  refine g_callVi (As := [.int x1, .int x3]) C dX4_link_22 ft_10 z0 ft_68 ft_9 (met_X4_of l hWF z0 hw) ⟨rfl, rfl, Nat.le_of_ble_eq_true rfl, Nat.le_of_ble_eq_true rfl⟩ ⟨Nat.zero_le _, Nat.zero_le _⟩ rfl rfl (Nat.le_of_ble_eq_true rfl) (fun r3 I3 J3 Q3 hp => ?_)
  obtain ⟨hw, eI, eJ, eQ, hWF⟩ := hp
  have eI : I2 = I3 := Eq.symm eI
  subst eI
  have eJ : J = J3 := Eq.symm eJ
  subst eJ
  have eQ : Q = Q3 := Eq.symm eQ
  subst eQ
  try dsimp only at hw hWF
  refine g_iconst (v := (1 : Int32)) C dX4_link_25 (by decide) ?_
  refine g_iload_n C dX4_link_26 rfl 2 rfl ?_
  refine g_ishl C dX4_link_27 ?_
  refine g_ior C dX4_link_28 ?_
  refine g_callVv (As := [.int x1, .int x3, .int (r3 ||| ((1 : Int32) <<< (x2 &&& 31)))]) C dX4_link_29 ft_10 z0 ft_66 ft_67 (met_X4_set l hWF z0 hw) ⟨rfl, rfl, Nat.le_of_ble_eq_true rfl, Nat.le_of_ble_eq_true rfl⟩ ⟨Nat.zero_le _, Nat.zero_le _⟩ rfl rfl (Nat.le_of_ble_eq_true rfl) (fun I4 J4 Q4 hp => ?_)
  obtain ⟨hw, eJ, eQ, hWF⟩ := hp
  have eJ : J = J4 := Eq.symm eJ
  subst eJ
  have eQ : Q = Q4 := Eq.symm eQ
  subst eQ
  try dsimp only at hw hWF
  exact g_vret C dX4_link_32 hr ⟨hw, rfl, rfl, hWF⟩
def wp_X4_path_L2 (Qf_1 : KQ) (f0_1 : Nat) (f1_1 : Int32) (f2_1 : Int32) (post : KI → Prop) : Nat → KI → Int32 → Prop
  | 0, _, _ => False
  | n2 + 1, I_1, x3_1 => ((f2_1 ≤ x3_1 → post I_1) ∧ (¬ f2_1 ≤ x3_1 → wp_X4_link I_1 Qf_1 f0_1 f1_1 (x3_1 - (1 : Int32)) x3_1 (fun I3 => wp_X4_path_L2 Qf_1 f0_1 f1_1 f2_1 post n2 I3 (x3_1 + (1 : Int32)))))
def wp_X4_path (I : KI) (Q : KQ) (h0 : Nat) (x1 : Int32) (x2 : Int32) (post : KI → Prop) : Prop := (∃ q2, wp_X4_path_L2 Q h0 x1 x2 post q2 I (1 : Int32))
set_option maxHeartbeats 4000000 in
set_option maxRecDepth 100000 in
theorem met_X4_path {Z : Nat → Prop} {A : Nat → Prop} {D : va_G} {D2 : Nat → ClassId} {ad : Nat → Nat} {N : Nat} {T : Nat → Nat × Nat} (l : Launch) {I : KI} {J : KJ} {Q : KQ} {h0 : Nat} {x1 : Int32} {x2 : Int32} {post : KI → Prop} (hWF : WF Z N T Q) (z0 : OKr Z N T h0 (4, 0)) (hw : wp_X4_path I Q h0 x1 x2 post) : Met l yX4_path (.code yX4_path cX4_path 4 none :: BIG) ({ frames := 2, cells := 0, slots := 0, locals := 47 }) (Pr D D2 A ad N T I J Q [.ref (ad h0), .int x1, .int x2]) (va_Qv (fun (u : KS) => post u.1 ∧ u.2.1 = J ∧ u.2.2 = Q ∧ WF Z N T u.2.2) (Bw D D2 ad N T) A) 0 0 A := by
  refine Met_GG (lv0 := [(0, .ref (ad h0)), (1, .int x1), (2, .int x2)]) (by decide +kernel) [.ref (ad h0), .int x1, .int x2] (Nat.le_of_ble_eq_true rfl) rfl ?_
  intro p e s m below meth c C hr
  have C : CX p s m [.ref (ad h0), .int x1, .int x2].toArray meth c cX4_path 4 RX4 A D D2 := C
  unfold wp_X4_path at hw
  refine g_iconst (v := (1 : Int32)) C dX4_path_0 (by decide) ?_
  refine g_istore_n (lv' := [(3, .int (1 : Int32)), (0, .ref (ad h0)), (1, .int x1), (2, .int x2)]) C dX4_path_1 rfl (by decide) rfl ?_
  have L2_u4 : ∀ (n2 : Nat) (I_1 : KI) (x3_1 : Int32), wp_X4_path_L2 Q h0 x1 x2 post n2 I_1 x3_1 → WF Z N T Q → GG p l e ({ frames := 2, cells := 0, slots := 0, locals := 47 }) s m [.ref (ad h0), .int x1, .int x2].toArray below meth c 4 A D D2 0 0 (MQ below (va_Qv (fun (u : KS) => post u.1 ∧ u.2.1 = J ∧ u.2.2 = Q ∧ WF Z N T u.2.2) (Bw D D2 ad N T) A) [.ref (ad h0), .int x1, .int x2].toArray s 0 0 A) ad N T I_1 J Q 2 [(0, .ref (ad h0)), (1, .int x1), (2, .int x2), (3, .int x3_1)] [] := by
    intro n2
    induction n2 with
    | zero => intro I_1 x3_1 hw; exact hw.elim
    | succ n2 ih_u4 =>
      intro I_1 x3_1 hw hWF
      unfold wp_X4_path_L2 at hw
      refine g_iload_n C dX4_path_2 rfl 3 rfl ?_
      refine g_iload_n C dX4_path_3 rfl 2 rfl ?_
      refine g_icmp_ge (tgt := 22) C dX4_path_4 (by decide) (fun c6 => ?_) (fun c6 => ?_)
      · have hw := hw.1 c6
        exact g_vret C dX4_path_22 hr ⟨hw, rfl, rfl, hWF⟩
      · have hw := hw.2 c6
        refine g_aload_n C dX4_path_7 rfl 0 rfl ?_
        refine g_iload_n C dX4_path_8 rfl 1 rfl ?_
        refine g_iload_n C dX4_path_9 rfl 3 rfl ?_
        refine g_iconst (v := (1 : Int32)) C dX4_path_10 (by decide) ?_
        refine g_isub C dX4_path_11 ?_
        refine g_iload_n C dX4_path_12 rfl 3 rfl ?_
        refine g_callVv (As := [.int x1, .int (x3_1 - (1 : Int32)), .int x3_1]) C dX4_path_13 ft_10 z0 ft_69 ft_70 (met_X4_link l hWF z0 hw) ⟨rfl, rfl, Nat.le_of_ble_eq_true rfl, Nat.le_of_ble_eq_true rfl⟩ ⟨Nat.zero_le _, Nat.zero_le _⟩ rfl rfl (Nat.le_of_ble_eq_true rfl) (fun I7 J7 Q7 hp => ?_)
        obtain ⟨hw, eJ, eQ, hWF⟩ := hp
        have eJ : J = J7 := Eq.symm eJ
        subst eJ
        have eQ : Q = Q7 := Eq.symm eQ
        subst eQ
        try dsimp only at hw hWF
        refine g_iinc (v := (x3_1 + (1 : Int32))) (lv' := [(3, .int (x3_1 + (1 : Int32))), (0, .ref (ad h0)), (1, .int x1), (2, .int x2)]) C dX4_path_16 (q := 3) rfl rfl (by decide) rfl ?_
        refine g_goto C dX4_path_19 (tgt := 2) (by decide) ?_
        refine g_sub [1, 2, 3, 0] rfl ?_
        exact ih_u4 I7 (x3_1 + (1 : Int32)) hw hWF
  obtain ⟨n_u4, hw⟩ := hw
  refine g_sub [1, 2, 3, 0] rfl ?_
  exact L2_u4 n_u4 I (1 : Int32) hw hWF
def wp_X4_take (I : KI) (Q : KQ) (h0 : Nat) (h1 : Nat) (post : KI → Prop) : Prop := post (sti (cpi I (rq Q h1 0) (rq Q h0 0) (0 : Int32).toNatClampNeg (0 : Int32).toNatClampNeg (48 : Int32).toNatClampNeg) h0 1 ((cpi I (rq Q h1 0) (rq Q h0 0) (0 : Int32).toNatClampNeg (0 : Int32).toNatClampNeg (48 : Int32).toNatClampNeg) h1 1))
set_option maxHeartbeats 4000000 in
set_option maxRecDepth 100000 in
theorem met_X4_take {Z : Nat → Prop} {A : Nat → Prop} {D : va_G} {D2 : Nat → ClassId} {ad : Nat → Nat} {N : Nat} {T : Nat → Nat × Nat} (l : Launch) {I : KI} {J : KJ} {Q : KQ} {h0 : Nat} {h1 : Nat} {post : KI → Prop} (hWF : WF Z N T Q) (z0 : OKr Z N T h0 (4, 0)) (z1 : OKr Z N T h1 (4, 0)) (hw : wp_X4_take I Q h0 h1 post) : Met l yX4_take (.code yX4_take cX4_take 2 none :: BIG) ({ frames := 1, cells := 0, slots := 0, locals := 40 }) (Pr D D2 A ad N T I J Q [.ref (ad h0), .ref (ad h1)]) (va_Qv (fun (u : KS) => post u.1 ∧ u.2.1 = J ∧ u.2.2 = Q ∧ WF Z N T u.2.2) (Bw D D2 ad N T) A) 0 0 A := by
  refine Met_GG (lv0 := [(0, .ref (ad h0)), (1, .ref (ad h1))]) (by decide +kernel) [.ref (ad h0), .ref (ad h1)] (Nat.le_of_ble_eq_true rfl) rfl ?_
  intro p e s m below meth c C hr
  have C : CX p s m [.ref (ad h0), .ref (ad h1)].toArray meth c cX4_take 2 RX4 A D D2 := C
  unfold wp_X4_take at hw
  refine g_aload_n C dX4_take_0 rfl 1 rfl ?_
  refine g_getQ C dX4_take_1 ft_2 z1 (hWF.q z1 0 rfl) ?_
  have zz1 := hWF.r z1 0 rfl
  refine g_iconst (v := (0 : Int32)) C dX4_take_4 (by decide) ?_
  refine g_aload_n C dX4_take_5 rfl 0 rfl ?_
  refine g_getQ C dX4_take_6 ft_2 z0 (hWF.q z0 0 rfl) ?_
  have zz2 := hWF.r z0 0 rfl
  refine g_iconst (v := (0 : Int32)) C dX4_take_9 (by decide) ?_
  refine g_aload_n C dX4_take_10 rfl 0 rfl ?_
  refine g_getQ C dX4_take_11 ft_2 z0 (hWF.q z0 0 rfl) ?_
  have zz3 := hWF.r z0 0 rfl
  refine g_alen (v := (48 : Int32)) C dX4_take_14 0 zz3 (by decide) rfl rfl ?_
  refine g_copyI C dX4_take_15 ft_71 zz1 zz2 (by decide +kernel) (by decide +kernel) (by decide +kernel) (by decide +kernel) (by decide +kernel) (by decide) (by decide +kernel) ?_
  refine g_aload_n C dX4_take_18 rfl 0 rfl ?_
  refine g_aload_n C dX4_take_19 rfl 1 rfl ?_
  refine g_getI C dX4_take_20 ft_72 z1 ?_
  refine g_putI C dX4_take_23 ft_65 z0 ?_
  exact g_vret C dX4_take_26 hr ⟨hw, rfl, rfl, hWF⟩
def wp_X1_take_L13 (Qf_4 : KQ) (f0_4 : Nat) (f1_4 : Nat) (k40 : KI → Prop) : Nat → KI → Int32 → Prop
  | 0, _, _ => False
  | n13 + 1, I_4, x2_4 => (((6 : Int32) ≤ x2_4 → k40 I_4) ∧ (¬ (6 : Int32) ≤ x2_4 → (vp_in x2_4 6 ∧ (vp_in x2_4 6 ∧ wp_X7_take I_4 Qf_4 (rq Qf_4 (rq Qf_4 f0_4 1) x2_4.toNatClampNeg) (rq Qf_4 (rq Qf_4 f1_4 1) x2_4.toNatClampNeg) (fun I10 => wp_X1_take_L13 Qf_4 f0_4 f1_4 k40 n13 I10 (x2_4 + (1 : Int32)))))))
def wp_X1_take (I : KI) (Q : KQ) (h0 : Nat) (h1 : Nat) (post : KI → Prop) : Prop := wp_X4_take I Q (rq Q h0 0) (rq Q h1 0) (fun I3 => (∃ q13, wp_X1_take_L13 Q h0 h1 (fun I_12 => post (sti (sti (sti (sti (sti (sti (cpi I_12 (rq Q h1 2) (rq Q h0 2) (0 : Int32).toNatClampNeg (0 : Int32).toNatClampNeg (6 : Int32).toNatClampNeg) h0 3 ((cpi I_12 (rq Q h1 2) (rq Q h0 2) (0 : Int32).toNatClampNeg (0 : Int32).toNatClampNeg (6 : Int32).toNatClampNeg) h1 3)) h0 4 ((sti (cpi I_12 (rq Q h1 2) (rq Q h0 2) (0 : Int32).toNatClampNeg (0 : Int32).toNatClampNeg (6 : Int32).toNatClampNeg) h0 3 ((cpi I_12 (rq Q h1 2) (rq Q h0 2) (0 : Int32).toNatClampNeg (0 : Int32).toNatClampNeg (6 : Int32).toNatClampNeg) h1 3)) h1 4)) h0 5 ((sti (sti (cpi I_12 (rq Q h1 2) (rq Q h0 2) (0 : Int32).toNatClampNeg (0 : Int32).toNatClampNeg (6 : Int32).toNatClampNeg) h0 3 ((cpi I_12 (rq Q h1 2) (rq Q h0 2) (0 : Int32).toNatClampNeg (0 : Int32).toNatClampNeg (6 : Int32).toNatClampNeg) h1 3)) h0 4 ((sti (cpi I_12 (rq Q h1 2) (rq Q h0 2) (0 : Int32).toNatClampNeg (0 : Int32).toNatClampNeg (6 : Int32).toNatClampNeg) h0 3 ((cpi I_12 (rq Q h1 2) (rq Q h0 2) (0 : Int32).toNatClampNeg (0 : Int32).toNatClampNeg (6 : Int32).toNatClampNeg) h1 3)) h1 4)) h1 5)) h0 6 ((sti (sti (sti (cpi I_12 (rq Q h1 2) (rq Q h0 2) (0 : Int32).toNatClampNeg (0 : Int32).toNatClampNeg (6 : Int32).toNatClampNeg) h0 3 ((cpi I_12 (rq Q h1 2) (rq Q h0 2) (0 : Int32).toNatClampNeg (0 : Int32).toNatClampNeg (6 : Int32).toNatClampNeg) h1 3)) h0 4 ((sti (cpi I_12 (rq Q h1 2) (rq Q h0 2) (0 : Int32).toNatClampNeg (0 : Int32).toNatClampNeg (6 : Int32).toNatClampNeg) h0 3 ((cpi I_12 (rq Q h1 2) (rq Q h0 2) (0 : Int32).toNatClampNeg (0 : Int32).toNatClampNeg (6 : Int32).toNatClampNeg) h1 3)) h1 4)) h0 5 ((sti (sti (cpi I_12 (rq Q h1 2) (rq Q h0 2) (0 : Int32).toNatClampNeg (0 : Int32).toNatClampNeg (6 : Int32).toNatClampNeg) h0 3 ((cpi I_12 (rq Q h1 2) (rq Q h0 2) (0 : Int32).toNatClampNeg (0 : Int32).toNatClampNeg (6 : Int32).toNatClampNeg) h1 3)) h0 4 ((sti (cpi I_12 (rq Q h1 2) (rq Q h0 2) (0 : Int32).toNatClampNeg (0 : Int32).toNatClampNeg (6 : Int32).toNatClampNeg) h0 3 ((cpi I_12 (rq Q h1 2) (rq Q h0 2) (0 : Int32).toNatClampNeg (0 : Int32).toNatClampNeg (6 : Int32).toNatClampNeg) h1 3)) h1 4)) h1 5)) h1 6)) h0 7 ((sti (sti (sti (sti (cpi I_12 (rq Q h1 2) (rq Q h0 2) (0 : Int32).toNatClampNeg (0 : Int32).toNatClampNeg (6 : Int32).toNatClampNeg) h0 3 ((cpi I_12 (rq Q h1 2) (rq Q h0 2) (0 : Int32).toNatClampNeg (0 : Int32).toNatClampNeg (6 : Int32).toNatClampNeg) h1 3)) h0 4 ((sti (cpi I_12 (rq Q h1 2) (rq Q h0 2) (0 : Int32).toNatClampNeg (0 : Int32).toNatClampNeg (6 : Int32).toNatClampNeg) h0 3 ((cpi I_12 (rq Q h1 2) (rq Q h0 2) (0 : Int32).toNatClampNeg (0 : Int32).toNatClampNeg (6 : Int32).toNatClampNeg) h1 3)) h1 4)) h0 5 ((sti (sti (cpi I_12 (rq Q h1 2) (rq Q h0 2) (0 : Int32).toNatClampNeg (0 : Int32).toNatClampNeg (6 : Int32).toNatClampNeg) h0 3 ((cpi I_12 (rq Q h1 2) (rq Q h0 2) (0 : Int32).toNatClampNeg (0 : Int32).toNatClampNeg (6 : Int32).toNatClampNeg) h1 3)) h0 4 ((sti (cpi I_12 (rq Q h1 2) (rq Q h0 2) (0 : Int32).toNatClampNeg (0 : Int32).toNatClampNeg (6 : Int32).toNatClampNeg) h0 3 ((cpi I_12 (rq Q h1 2) (rq Q h0 2) (0 : Int32).toNatClampNeg (0 : Int32).toNatClampNeg (6 : Int32).toNatClampNeg) h1 3)) h1 4)) h1 5)) h0 6 ((sti (sti (sti (cpi I_12 (rq Q h1 2) (rq Q h0 2) (0 : Int32).toNatClampNeg (0 : Int32).toNatClampNeg (6 : Int32).toNatClampNeg) h0 3 ((cpi I_12 (rq Q h1 2) (rq Q h0 2) (0 : Int32).toNatClampNeg (0 : Int32).toNatClampNeg (6 : Int32).toNatClampNeg) h1 3)) h0 4 ((sti (cpi I_12 (rq Q h1 2) (rq Q h0 2) (0 : Int32).toNatClampNeg (0 : Int32).toNatClampNeg (6 : Int32).toNatClampNeg) h0 3 ((cpi I_12 (rq Q h1 2) (rq Q h0 2) (0 : Int32).toNatClampNeg (0 : Int32).toNatClampNeg (6 : Int32).toNatClampNeg) h1 3)) h1 4)) h0 5 ((sti (sti (cpi I_12 (rq Q h1 2) (rq Q h0 2) (0 : Int32).toNatClampNeg (0 : Int32).toNatClampNeg (6 : Int32).toNatClampNeg) h0 3 ((cpi I_12 (rq Q h1 2) (rq Q h0 2) (0 : Int32).toNatClampNeg (0 : Int32).toNatClampNeg (6 : Int32).toNatClampNeg) h1 3)) h0 4 ((sti (cpi I_12 (rq Q h1 2) (rq Q h0 2) (0 : Int32).toNatClampNeg (0 : Int32).toNatClampNeg (6 : Int32).toNatClampNeg) h0 3 ((cpi I_12 (rq Q h1 2) (rq Q h0 2) (0 : Int32).toNatClampNeg (0 : Int32).toNatClampNeg (6 : Int32).toNatClampNeg) h1 3)) h1 4)) h1 5)) h1 6)) h1 7)) h0 8 ((sti (sti (sti (sti (sti (cpi I_12 (rq Q h1 2) (rq Q h0 2) (0 : Int32).toNatClampNeg (0 : Int32).toNatClampNeg (6 : Int32).toNatClampNeg) h0 3 ((cpi I_12 (rq Q h1 2) (rq Q h0 2) (0 : Int32).toNatClampNeg (0 : Int32).toNatClampNeg (6 : Int32).toNatClampNeg) h1 3)) h0 4 ((sti (cpi I_12 (rq Q h1 2) (rq Q h0 2) (0 : Int32).toNatClampNeg (0 : Int32).toNatClampNeg (6 : Int32).toNatClampNeg) h0 3 ((cpi I_12 (rq Q h1 2) (rq Q h0 2) (0 : Int32).toNatClampNeg (0 : Int32).toNatClampNeg (6 : Int32).toNatClampNeg) h1 3)) h1 4)) h0 5 ((sti (sti (cpi I_12 (rq Q h1 2) (rq Q h0 2) (0 : Int32).toNatClampNeg (0 : Int32).toNatClampNeg (6 : Int32).toNatClampNeg) h0 3 ((cpi I_12 (rq Q h1 2) (rq Q h0 2) (0 : Int32).toNatClampNeg (0 : Int32).toNatClampNeg (6 : Int32).toNatClampNeg) h1 3)) h0 4 ((sti (cpi I_12 (rq Q h1 2) (rq Q h0 2) (0 : Int32).toNatClampNeg (0 : Int32).toNatClampNeg (6 : Int32).toNatClampNeg) h0 3 ((cpi I_12 (rq Q h1 2) (rq Q h0 2) (0 : Int32).toNatClampNeg (0 : Int32).toNatClampNeg (6 : Int32).toNatClampNeg) h1 3)) h1 4)) h1 5)) h0 6 ((sti (sti (sti (cpi I_12 (rq Q h1 2) (rq Q h0 2) (0 : Int32).toNatClampNeg (0 : Int32).toNatClampNeg (6 : Int32).toNatClampNeg) h0 3 ((cpi I_12 (rq Q h1 2) (rq Q h0 2) (0 : Int32).toNatClampNeg (0 : Int32).toNatClampNeg (6 : Int32).toNatClampNeg) h1 3)) h0 4 ((sti (cpi I_12 (rq Q h1 2) (rq Q h0 2) (0 : Int32).toNatClampNeg (0 : Int32).toNatClampNeg (6 : Int32).toNatClampNeg) h0 3 ((cpi I_12 (rq Q h1 2) (rq Q h0 2) (0 : Int32).toNatClampNeg (0 : Int32).toNatClampNeg (6 : Int32).toNatClampNeg) h1 3)) h1 4)) h0 5 ((sti (sti (cpi I_12 (rq Q h1 2) (rq Q h0 2) (0 : Int32).toNatClampNeg (0 : Int32).toNatClampNeg (6 : Int32).toNatClampNeg) h0 3 ((cpi I_12 (rq Q h1 2) (rq Q h0 2) (0 : Int32).toNatClampNeg (0 : Int32).toNatClampNeg (6 : Int32).toNatClampNeg) h1 3)) h0 4 ((sti (cpi I_12 (rq Q h1 2) (rq Q h0 2) (0 : Int32).toNatClampNeg (0 : Int32).toNatClampNeg (6 : Int32).toNatClampNeg) h0 3 ((cpi I_12 (rq Q h1 2) (rq Q h0 2) (0 : Int32).toNatClampNeg (0 : Int32).toNatClampNeg (6 : Int32).toNatClampNeg) h1 3)) h1 4)) h1 5)) h1 6)) h0 7 ((sti (sti (sti (sti (cpi I_12 (rq Q h1 2) (rq Q h0 2) (0 : Int32).toNatClampNeg (0 : Int32).toNatClampNeg (6 : Int32).toNatClampNeg) h0 3 ((cpi I_12 (rq Q h1 2) (rq Q h0 2) (0 : Int32).toNatClampNeg (0 : Int32).toNatClampNeg (6 : Int32).toNatClampNeg) h1 3)) h0 4 ((sti (cpi I_12 (rq Q h1 2) (rq Q h0 2) (0 : Int32).toNatClampNeg (0 : Int32).toNatClampNeg (6 : Int32).toNatClampNeg) h0 3 ((cpi I_12 (rq Q h1 2) (rq Q h0 2) (0 : Int32).toNatClampNeg (0 : Int32).toNatClampNeg (6 : Int32).toNatClampNeg) h1 3)) h1 4)) h0 5 ((sti (sti (cpi I_12 (rq Q h1 2) (rq Q h0 2) (0 : Int32).toNatClampNeg (0 : Int32).toNatClampNeg (6 : Int32).toNatClampNeg) h0 3 ((cpi I_12 (rq Q h1 2) (rq Q h0 2) (0 : Int32).toNatClampNeg (0 : Int32).toNatClampNeg (6 : Int32).toNatClampNeg) h1 3)) h0 4 ((sti (cpi I_12 (rq Q h1 2) (rq Q h0 2) (0 : Int32).toNatClampNeg (0 : Int32).toNatClampNeg (6 : Int32).toNatClampNeg) h0 3 ((cpi I_12 (rq Q h1 2) (rq Q h0 2) (0 : Int32).toNatClampNeg (0 : Int32).toNatClampNeg (6 : Int32).toNatClampNeg) h1 3)) h1 4)) h1 5)) h0 6 ((sti (sti (sti (cpi I_12 (rq Q h1 2) (rq Q h0 2) (0 : Int32).toNatClampNeg (0 : Int32).toNatClampNeg (6 : Int32).toNatClampNeg) h0 3 ((cpi I_12 (rq Q h1 2) (rq Q h0 2) (0 : Int32).toNatClampNeg (0 : Int32).toNatClampNeg (6 : Int32).toNatClampNeg) h1 3)) h0 4 ((sti (cpi I_12 (rq Q h1 2) (rq Q h0 2) (0 : Int32).toNatClampNeg (0 : Int32).toNatClampNeg (6 : Int32).toNatClampNeg) h0 3 ((cpi I_12 (rq Q h1 2) (rq Q h0 2) (0 : Int32).toNatClampNeg (0 : Int32).toNatClampNeg (6 : Int32).toNatClampNeg) h1 3)) h1 4)) h0 5 ((sti (sti (cpi I_12 (rq Q h1 2) (rq Q h0 2) (0 : Int32).toNatClampNeg (0 : Int32).toNatClampNeg (6 : Int32).toNatClampNeg) h0 3 ((cpi I_12 (rq Q h1 2) (rq Q h0 2) (0 : Int32).toNatClampNeg (0 : Int32).toNatClampNeg (6 : Int32).toNatClampNeg) h1 3)) h0 4 ((sti (cpi I_12 (rq Q h1 2) (rq Q h0 2) (0 : Int32).toNatClampNeg (0 : Int32).toNatClampNeg (6 : Int32).toNatClampNeg) h0 3 ((cpi I_12 (rq Q h1 2) (rq Q h0 2) (0 : Int32).toNatClampNeg (0 : Int32).toNatClampNeg (6 : Int32).toNatClampNeg) h1 3)) h1 4)) h1 5)) h1 6)) h1 7)) h1 8))) q13 I3 (0 : Int32)))
set_option maxHeartbeats 4000000 in
set_option maxRecDepth 100000 in
theorem met_X1_take {Z : Nat → Prop} {A : Nat → Prop} {D : va_G} {D2 : Nat → ClassId} {ad : Nat → Nat} {N : Nat} {T : Nat → Nat × Nat} (l : Launch) {I : KI} {J : KJ} {Q : KQ} {h0 : Nat} {h1 : Nat} {post : KI → Prop} (hWF : WF Z N T Q) (z0 : OKr Z N T h0 (1, 0)) (z1 : OKr Z N T h1 (1, 0)) (hw : wp_X1_take I Q h0 h1 post) : Met l yX1_take (.code yX1_take cX1_take 3 none :: BIG) ({ frames := 2, cells := 0, slots := 0, locals := 61 }) (Pr D D2 A ad N T I J Q [.ref (ad h0), .ref (ad h1)]) (va_Qv (fun (u : KS) => post u.1 ∧ u.2.1 = J ∧ u.2.2 = Q ∧ WF Z N T u.2.2) (Bw D D2 ad N T) A) 0 0 A := by
  refine Met_GG (lv0 := [(0, .ref (ad h0)), (1, .ref (ad h1))]) (by decide +kernel) [.ref (ad h0), .ref (ad h1)] (Nat.le_of_ble_eq_true rfl) rfl ?_
  intro p e s m below meth c C hr
  have C : CX p s m [.ref (ad h0), .ref (ad h1)].toArray meth c cX1_take 3 RX1 A D D2 := C
  unfold wp_X1_take at hw
  refine g_aload_n C dX1_take_0 rfl 0 rfl ?_
  refine g_getQ C dX1_take_1 ft_6 z0 (hWF.q z0 0 rfl) ?_
  have zz1 := hWF.r z0 0 rfl
  refine g_aload_n C dX1_take_4 rfl 1 rfl ?_
  refine g_getQ C dX1_take_5 ft_6 z1 (hWF.q z1 0 rfl) ?_
  have zz2 := hWF.r z1 0 rfl
  refine g_callVv (As := [.ref (ad (rq Q h1 0))]) C dX1_take_8 ft_10 zz1 ft_88 ft_89 (met_X4_take l hWF zz1 zz2 hw) ⟨rfl, rfl, Nat.le_of_ble_eq_true rfl, Nat.le_of_ble_eq_true rfl⟩ ⟨Nat.zero_le _, Nat.zero_le _⟩ rfl rfl (Nat.le_of_ble_eq_true rfl) (fun I3 J3 Q3 hp => ?_)
  obtain ⟨hw, eJ, eQ, hWF⟩ := hp
  have eJ : J = J3 := Eq.symm eJ
  subst eJ
  have eQ : Q = Q3 := Eq.symm eQ
  subst eQ
  try dsimp only at hw hWF
  refine g_iconst (v := (0 : Int32)) C dX1_take_11 (by decide) ?_
  refine g_istore_n (lv' := [(2, .int (0 : Int32)), (0, .ref (ad h0)), (1, .ref (ad h1))]) C dX1_take_12 rfl (by decide) rfl ?_
  have K40_u11 : ∀ (I_12 : KI), (post (sti (sti (sti (sti (sti (sti (cpi I_12 (rq Q h1 2) (rq Q h0 2) (0 : Int32).toNatClampNeg (0 : Int32).toNatClampNeg (6 : Int32).toNatClampNeg) h0 3 ((cpi I_12 (rq Q h1 2) (rq Q h0 2) (0 : Int32).toNatClampNeg (0 : Int32).toNatClampNeg (6 : Int32).toNatClampNeg) h1 3)) h0 4 ((sti (cpi I_12 (rq Q h1 2) (rq Q h0 2) (0 : Int32).toNatClampNeg (0 : Int32).toNatClampNeg (6 : Int32).toNatClampNeg) h0 3 ((cpi I_12 (rq Q h1 2) (rq Q h0 2) (0 : Int32).toNatClampNeg (0 : Int32).toNatClampNeg (6 : Int32).toNatClampNeg) h1 3)) h1 4)) h0 5 ((sti (sti (cpi I_12 (rq Q h1 2) (rq Q h0 2) (0 : Int32).toNatClampNeg (0 : Int32).toNatClampNeg (6 : Int32).toNatClampNeg) h0 3 ((cpi I_12 (rq Q h1 2) (rq Q h0 2) (0 : Int32).toNatClampNeg (0 : Int32).toNatClampNeg (6 : Int32).toNatClampNeg) h1 3)) h0 4 ((sti (cpi I_12 (rq Q h1 2) (rq Q h0 2) (0 : Int32).toNatClampNeg (0 : Int32).toNatClampNeg (6 : Int32).toNatClampNeg) h0 3 ((cpi I_12 (rq Q h1 2) (rq Q h0 2) (0 : Int32).toNatClampNeg (0 : Int32).toNatClampNeg (6 : Int32).toNatClampNeg) h1 3)) h1 4)) h1 5)) h0 6 ((sti (sti (sti (cpi I_12 (rq Q h1 2) (rq Q h0 2) (0 : Int32).toNatClampNeg (0 : Int32).toNatClampNeg (6 : Int32).toNatClampNeg) h0 3 ((cpi I_12 (rq Q h1 2) (rq Q h0 2) (0 : Int32).toNatClampNeg (0 : Int32).toNatClampNeg (6 : Int32).toNatClampNeg) h1 3)) h0 4 ((sti (cpi I_12 (rq Q h1 2) (rq Q h0 2) (0 : Int32).toNatClampNeg (0 : Int32).toNatClampNeg (6 : Int32).toNatClampNeg) h0 3 ((cpi I_12 (rq Q h1 2) (rq Q h0 2) (0 : Int32).toNatClampNeg (0 : Int32).toNatClampNeg (6 : Int32).toNatClampNeg) h1 3)) h1 4)) h0 5 ((sti (sti (cpi I_12 (rq Q h1 2) (rq Q h0 2) (0 : Int32).toNatClampNeg (0 : Int32).toNatClampNeg (6 : Int32).toNatClampNeg) h0 3 ((cpi I_12 (rq Q h1 2) (rq Q h0 2) (0 : Int32).toNatClampNeg (0 : Int32).toNatClampNeg (6 : Int32).toNatClampNeg) h1 3)) h0 4 ((sti (cpi I_12 (rq Q h1 2) (rq Q h0 2) (0 : Int32).toNatClampNeg (0 : Int32).toNatClampNeg (6 : Int32).toNatClampNeg) h0 3 ((cpi I_12 (rq Q h1 2) (rq Q h0 2) (0 : Int32).toNatClampNeg (0 : Int32).toNatClampNeg (6 : Int32).toNatClampNeg) h1 3)) h1 4)) h1 5)) h1 6)) h0 7 ((sti (sti (sti (sti (cpi I_12 (rq Q h1 2) (rq Q h0 2) (0 : Int32).toNatClampNeg (0 : Int32).toNatClampNeg (6 : Int32).toNatClampNeg) h0 3 ((cpi I_12 (rq Q h1 2) (rq Q h0 2) (0 : Int32).toNatClampNeg (0 : Int32).toNatClampNeg (6 : Int32).toNatClampNeg) h1 3)) h0 4 ((sti (cpi I_12 (rq Q h1 2) (rq Q h0 2) (0 : Int32).toNatClampNeg (0 : Int32).toNatClampNeg (6 : Int32).toNatClampNeg) h0 3 ((cpi I_12 (rq Q h1 2) (rq Q h0 2) (0 : Int32).toNatClampNeg (0 : Int32).toNatClampNeg (6 : Int32).toNatClampNeg) h1 3)) h1 4)) h0 5 ((sti (sti (cpi I_12 (rq Q h1 2) (rq Q h0 2) (0 : Int32).toNatClampNeg (0 : Int32).toNatClampNeg (6 : Int32).toNatClampNeg) h0 3 ((cpi I_12 (rq Q h1 2) (rq Q h0 2) (0 : Int32).toNatClampNeg (0 : Int32).toNatClampNeg (6 : Int32).toNatClampNeg) h1 3)) h0 4 ((sti (cpi I_12 (rq Q h1 2) (rq Q h0 2) (0 : Int32).toNatClampNeg (0 : Int32).toNatClampNeg (6 : Int32).toNatClampNeg) h0 3 ((cpi I_12 (rq Q h1 2) (rq Q h0 2) (0 : Int32).toNatClampNeg (0 : Int32).toNatClampNeg (6 : Int32).toNatClampNeg) h1 3)) h1 4)) h1 5)) h0 6 ((sti (sti (sti (cpi I_12 (rq Q h1 2) (rq Q h0 2) (0 : Int32).toNatClampNeg (0 : Int32).toNatClampNeg (6 : Int32).toNatClampNeg) h0 3 ((cpi I_12 (rq Q h1 2) (rq Q h0 2) (0 : Int32).toNatClampNeg (0 : Int32).toNatClampNeg (6 : Int32).toNatClampNeg) h1 3)) h0 4 ((sti (cpi I_12 (rq Q h1 2) (rq Q h0 2) (0 : Int32).toNatClampNeg (0 : Int32).toNatClampNeg (6 : Int32).toNatClampNeg) h0 3 ((cpi I_12 (rq Q h1 2) (rq Q h0 2) (0 : Int32).toNatClampNeg (0 : Int32).toNatClampNeg (6 : Int32).toNatClampNeg) h1 3)) h1 4)) h0 5 ((sti (sti (cpi I_12 (rq Q h1 2) (rq Q h0 2) (0 : Int32).toNatClampNeg (0 : Int32).toNatClampNeg (6 : Int32).toNatClampNeg) h0 3 ((cpi I_12 (rq Q h1 2) (rq Q h0 2) (0 : Int32).toNatClampNeg (0 : Int32).toNatClampNeg (6 : Int32).toNatClampNeg) h1 3)) h0 4 ((sti (cpi I_12 (rq Q h1 2) (rq Q h0 2) (0 : Int32).toNatClampNeg (0 : Int32).toNatClampNeg (6 : Int32).toNatClampNeg) h0 3 ((cpi I_12 (rq Q h1 2) (rq Q h0 2) (0 : Int32).toNatClampNeg (0 : Int32).toNatClampNeg (6 : Int32).toNatClampNeg) h1 3)) h1 4)) h1 5)) h1 6)) h1 7)) h0 8 ((sti (sti (sti (sti (sti (cpi I_12 (rq Q h1 2) (rq Q h0 2) (0 : Int32).toNatClampNeg (0 : Int32).toNatClampNeg (6 : Int32).toNatClampNeg) h0 3 ((cpi I_12 (rq Q h1 2) (rq Q h0 2) (0 : Int32).toNatClampNeg (0 : Int32).toNatClampNeg (6 : Int32).toNatClampNeg) h1 3)) h0 4 ((sti (cpi I_12 (rq Q h1 2) (rq Q h0 2) (0 : Int32).toNatClampNeg (0 : Int32).toNatClampNeg (6 : Int32).toNatClampNeg) h0 3 ((cpi I_12 (rq Q h1 2) (rq Q h0 2) (0 : Int32).toNatClampNeg (0 : Int32).toNatClampNeg (6 : Int32).toNatClampNeg) h1 3)) h1 4)) h0 5 ((sti (sti (cpi I_12 (rq Q h1 2) (rq Q h0 2) (0 : Int32).toNatClampNeg (0 : Int32).toNatClampNeg (6 : Int32).toNatClampNeg) h0 3 ((cpi I_12 (rq Q h1 2) (rq Q h0 2) (0 : Int32).toNatClampNeg (0 : Int32).toNatClampNeg (6 : Int32).toNatClampNeg) h1 3)) h0 4 ((sti (cpi I_12 (rq Q h1 2) (rq Q h0 2) (0 : Int32).toNatClampNeg (0 : Int32).toNatClampNeg (6 : Int32).toNatClampNeg) h0 3 ((cpi I_12 (rq Q h1 2) (rq Q h0 2) (0 : Int32).toNatClampNeg (0 : Int32).toNatClampNeg (6 : Int32).toNatClampNeg) h1 3)) h1 4)) h1 5)) h0 6 ((sti (sti (sti (cpi I_12 (rq Q h1 2) (rq Q h0 2) (0 : Int32).toNatClampNeg (0 : Int32).toNatClampNeg (6 : Int32).toNatClampNeg) h0 3 ((cpi I_12 (rq Q h1 2) (rq Q h0 2) (0 : Int32).toNatClampNeg (0 : Int32).toNatClampNeg (6 : Int32).toNatClampNeg) h1 3)) h0 4 ((sti (cpi I_12 (rq Q h1 2) (rq Q h0 2) (0 : Int32).toNatClampNeg (0 : Int32).toNatClampNeg (6 : Int32).toNatClampNeg) h0 3 ((cpi I_12 (rq Q h1 2) (rq Q h0 2) (0 : Int32).toNatClampNeg (0 : Int32).toNatClampNeg (6 : Int32).toNatClampNeg) h1 3)) h1 4)) h0 5 ((sti (sti (cpi I_12 (rq Q h1 2) (rq Q h0 2) (0 : Int32).toNatClampNeg (0 : Int32).toNatClampNeg (6 : Int32).toNatClampNeg) h0 3 ((cpi I_12 (rq Q h1 2) (rq Q h0 2) (0 : Int32).toNatClampNeg (0 : Int32).toNatClampNeg (6 : Int32).toNatClampNeg) h1 3)) h0 4 ((sti (cpi I_12 (rq Q h1 2) (rq Q h0 2) (0 : Int32).toNatClampNeg (0 : Int32).toNatClampNeg (6 : Int32).toNatClampNeg) h0 3 ((cpi I_12 (rq Q h1 2) (rq Q h0 2) (0 : Int32).toNatClampNeg (0 : Int32).toNatClampNeg (6 : Int32).toNatClampNeg) h1 3)) h1 4)) h1 5)) h1 6)) h0 7 ((sti (sti (sti (sti (cpi I_12 (rq Q h1 2) (rq Q h0 2) (0 : Int32).toNatClampNeg (0 : Int32).toNatClampNeg (6 : Int32).toNatClampNeg) h0 3 ((cpi I_12 (rq Q h1 2) (rq Q h0 2) (0 : Int32).toNatClampNeg (0 : Int32).toNatClampNeg (6 : Int32).toNatClampNeg) h1 3)) h0 4 ((sti (cpi I_12 (rq Q h1 2) (rq Q h0 2) (0 : Int32).toNatClampNeg (0 : Int32).toNatClampNeg (6 : Int32).toNatClampNeg) h0 3 ((cpi I_12 (rq Q h1 2) (rq Q h0 2) (0 : Int32).toNatClampNeg (0 : Int32).toNatClampNeg (6 : Int32).toNatClampNeg) h1 3)) h1 4)) h0 5 ((sti (sti (cpi I_12 (rq Q h1 2) (rq Q h0 2) (0 : Int32).toNatClampNeg (0 : Int32).toNatClampNeg (6 : Int32).toNatClampNeg) h0 3 ((cpi I_12 (rq Q h1 2) (rq Q h0 2) (0 : Int32).toNatClampNeg (0 : Int32).toNatClampNeg (6 : Int32).toNatClampNeg) h1 3)) h0 4 ((sti (cpi I_12 (rq Q h1 2) (rq Q h0 2) (0 : Int32).toNatClampNeg (0 : Int32).toNatClampNeg (6 : Int32).toNatClampNeg) h0 3 ((cpi I_12 (rq Q h1 2) (rq Q h0 2) (0 : Int32).toNatClampNeg (0 : Int32).toNatClampNeg (6 : Int32).toNatClampNeg) h1 3)) h1 4)) h1 5)) h0 6 ((sti (sti (sti (cpi I_12 (rq Q h1 2) (rq Q h0 2) (0 : Int32).toNatClampNeg (0 : Int32).toNatClampNeg (6 : Int32).toNatClampNeg) h0 3 ((cpi I_12 (rq Q h1 2) (rq Q h0 2) (0 : Int32).toNatClampNeg (0 : Int32).toNatClampNeg (6 : Int32).toNatClampNeg) h1 3)) h0 4 ((sti (cpi I_12 (rq Q h1 2) (rq Q h0 2) (0 : Int32).toNatClampNeg (0 : Int32).toNatClampNeg (6 : Int32).toNatClampNeg) h0 3 ((cpi I_12 (rq Q h1 2) (rq Q h0 2) (0 : Int32).toNatClampNeg (0 : Int32).toNatClampNeg (6 : Int32).toNatClampNeg) h1 3)) h1 4)) h0 5 ((sti (sti (cpi I_12 (rq Q h1 2) (rq Q h0 2) (0 : Int32).toNatClampNeg (0 : Int32).toNatClampNeg (6 : Int32).toNatClampNeg) h0 3 ((cpi I_12 (rq Q h1 2) (rq Q h0 2) (0 : Int32).toNatClampNeg (0 : Int32).toNatClampNeg (6 : Int32).toNatClampNeg) h1 3)) h0 4 ((sti (cpi I_12 (rq Q h1 2) (rq Q h0 2) (0 : Int32).toNatClampNeg (0 : Int32).toNatClampNeg (6 : Int32).toNatClampNeg) h0 3 ((cpi I_12 (rq Q h1 2) (rq Q h0 2) (0 : Int32).toNatClampNeg (0 : Int32).toNatClampNeg (6 : Int32).toNatClampNeg) h1 3)) h1 4)) h1 5)) h1 6)) h1 7)) h1 8))) → WF Z N T Q → GG p l e ({ frames := 2, cells := 0, slots := 0, locals := 61 }) s m [.ref (ad h0), .ref (ad h1)].toArray below meth c 3 A D D2 0 0 (MQ below (va_Qv (fun (u : KS) => post u.1 ∧ u.2.1 = J ∧ u.2.2 = Q ∧ WF Z N T u.2.2) (Bw D D2 ad N T) A) [.ref (ad h0), .ref (ad h1)].toArray s 0 0 A) ad N T I_12 J Q 40 [(0, .ref (ad h0)), (1, .ref (ad h1))] [] := by
    intro I_12 hw hWF
    refine g_aload_n C dX1_take_40 rfl 1 rfl ?_
    refine g_getQ C dX1_take_41 ft_75 z1 (hWF.q z1 2 rfl) ?_
    have zz13 := hWF.r z1 2 rfl
    refine g_iconst (v := (0 : Int32)) C dX1_take_44 (by decide) ?_
    refine g_aload_n C dX1_take_45 rfl 0 rfl ?_
    refine g_getQ C dX1_take_46 ft_75 z0 (hWF.q z0 2 rfl) ?_
    have zz14 := hWF.r z0 2 rfl
    refine g_iconst (v := (0 : Int32)) C dX1_take_49 (by decide) ?_
    refine g_bipush (v := (6 : Int32)) C dX1_take_50 (by decide) ?_
    refine g_copyI C dX1_take_52 ft_76 zz13 zz14 (by decide +kernel) (by decide +kernel) (by decide +kernel) (by decide +kernel) (by decide +kernel) (by decide) (by decide +kernel) ?_
    refine g_aload_n C dX1_take_55 rfl 0 rfl ?_
    refine g_aload_n C dX1_take_56 rfl 1 rfl ?_
    refine g_getI C dX1_take_57 ft_77 z1 ?_
    refine g_putI C dX1_take_60 ft_78 z0 ?_
    refine g_aload_n C dX1_take_63 rfl 0 rfl ?_
    refine g_aload_n C dX1_take_64 rfl 1 rfl ?_
    refine g_getI C dX1_take_65 ft_79 z1 ?_
    refine g_putI C dX1_take_68 ft_80 z0 ?_
    refine g_aload_n C dX1_take_71 rfl 0 rfl ?_
    refine g_aload_n C dX1_take_72 rfl 1 rfl ?_
    refine g_getI C dX1_take_73 ft_81 z1 ?_
    refine g_putI C dX1_take_76 ft_82 z0 ?_
    refine g_aload_n C dX1_take_79 rfl 0 rfl ?_
    refine g_aload_n C dX1_take_80 rfl 1 rfl ?_
    refine g_getI C dX1_take_81 ft_4 z1 ?_
    refine g_putI C dX1_take_84 ft_83 z0 ?_
    refine g_aload_n C dX1_take_87 rfl 0 rfl ?_
    refine g_aload_n C dX1_take_88 rfl 1 rfl ?_
    refine g_getI C dX1_take_89 ft_84 z1 ?_
    refine g_putI C dX1_take_92 ft_85 z0 ?_
    refine g_aload_n C dX1_take_95 rfl 0 rfl ?_
    refine g_aload_n C dX1_take_96 rfl 1 rfl ?_
    refine g_getI C dX1_take_97 ft_86 z1 ?_
    refine g_putI C dX1_take_100 ft_87 z0 ?_
    exact g_vret C dX1_take_103 hr ⟨hw, rfl, rfl, hWF⟩
  have L13_u11 : ∀ (n13 : Nat) (I_4 : KI) (x2_4 : Int32), wp_X1_take_L13 Q h0 h1 (fun I_12 => post (sti (sti (sti (sti (sti (sti (cpi I_12 (rq Q h1 2) (rq Q h0 2) (0 : Int32).toNatClampNeg (0 : Int32).toNatClampNeg (6 : Int32).toNatClampNeg) h0 3 ((cpi I_12 (rq Q h1 2) (rq Q h0 2) (0 : Int32).toNatClampNeg (0 : Int32).toNatClampNeg (6 : Int32).toNatClampNeg) h1 3)) h0 4 ((sti (cpi I_12 (rq Q h1 2) (rq Q h0 2) (0 : Int32).toNatClampNeg (0 : Int32).toNatClampNeg (6 : Int32).toNatClampNeg) h0 3 ((cpi I_12 (rq Q h1 2) (rq Q h0 2) (0 : Int32).toNatClampNeg (0 : Int32).toNatClampNeg (6 : Int32).toNatClampNeg) h1 3)) h1 4)) h0 5 ((sti (sti (cpi I_12 (rq Q h1 2) (rq Q h0 2) (0 : Int32).toNatClampNeg (0 : Int32).toNatClampNeg (6 : Int32).toNatClampNeg) h0 3 ((cpi I_12 (rq Q h1 2) (rq Q h0 2) (0 : Int32).toNatClampNeg (0 : Int32).toNatClampNeg (6 : Int32).toNatClampNeg) h1 3)) h0 4 ((sti (cpi I_12 (rq Q h1 2) (rq Q h0 2) (0 : Int32).toNatClampNeg (0 : Int32).toNatClampNeg (6 : Int32).toNatClampNeg) h0 3 ((cpi I_12 (rq Q h1 2) (rq Q h0 2) (0 : Int32).toNatClampNeg (0 : Int32).toNatClampNeg (6 : Int32).toNatClampNeg) h1 3)) h1 4)) h1 5)) h0 6 ((sti (sti (sti (cpi I_12 (rq Q h1 2) (rq Q h0 2) (0 : Int32).toNatClampNeg (0 : Int32).toNatClampNeg (6 : Int32).toNatClampNeg) h0 3 ((cpi I_12 (rq Q h1 2) (rq Q h0 2) (0 : Int32).toNatClampNeg (0 : Int32).toNatClampNeg (6 : Int32).toNatClampNeg) h1 3)) h0 4 ((sti (cpi I_12 (rq Q h1 2) (rq Q h0 2) (0 : Int32).toNatClampNeg (0 : Int32).toNatClampNeg (6 : Int32).toNatClampNeg) h0 3 ((cpi I_12 (rq Q h1 2) (rq Q h0 2) (0 : Int32).toNatClampNeg (0 : Int32).toNatClampNeg (6 : Int32).toNatClampNeg) h1 3)) h1 4)) h0 5 ((sti (sti (cpi I_12 (rq Q h1 2) (rq Q h0 2) (0 : Int32).toNatClampNeg (0 : Int32).toNatClampNeg (6 : Int32).toNatClampNeg) h0 3 ((cpi I_12 (rq Q h1 2) (rq Q h0 2) (0 : Int32).toNatClampNeg (0 : Int32).toNatClampNeg (6 : Int32).toNatClampNeg) h1 3)) h0 4 ((sti (cpi I_12 (rq Q h1 2) (rq Q h0 2) (0 : Int32).toNatClampNeg (0 : Int32).toNatClampNeg (6 : Int32).toNatClampNeg) h0 3 ((cpi I_12 (rq Q h1 2) (rq Q h0 2) (0 : Int32).toNatClampNeg (0 : Int32).toNatClampNeg (6 : Int32).toNatClampNeg) h1 3)) h1 4)) h1 5)) h1 6)) h0 7 ((sti (sti (sti (sti (cpi I_12 (rq Q h1 2) (rq Q h0 2) (0 : Int32).toNatClampNeg (0 : Int32).toNatClampNeg (6 : Int32).toNatClampNeg) h0 3 ((cpi I_12 (rq Q h1 2) (rq Q h0 2) (0 : Int32).toNatClampNeg (0 : Int32).toNatClampNeg (6 : Int32).toNatClampNeg) h1 3)) h0 4 ((sti (cpi I_12 (rq Q h1 2) (rq Q h0 2) (0 : Int32).toNatClampNeg (0 : Int32).toNatClampNeg (6 : Int32).toNatClampNeg) h0 3 ((cpi I_12 (rq Q h1 2) (rq Q h0 2) (0 : Int32).toNatClampNeg (0 : Int32).toNatClampNeg (6 : Int32).toNatClampNeg) h1 3)) h1 4)) h0 5 ((sti (sti (cpi I_12 (rq Q h1 2) (rq Q h0 2) (0 : Int32).toNatClampNeg (0 : Int32).toNatClampNeg (6 : Int32).toNatClampNeg) h0 3 ((cpi I_12 (rq Q h1 2) (rq Q h0 2) (0 : Int32).toNatClampNeg (0 : Int32).toNatClampNeg (6 : Int32).toNatClampNeg) h1 3)) h0 4 ((sti (cpi I_12 (rq Q h1 2) (rq Q h0 2) (0 : Int32).toNatClampNeg (0 : Int32).toNatClampNeg (6 : Int32).toNatClampNeg) h0 3 ((cpi I_12 (rq Q h1 2) (rq Q h0 2) (0 : Int32).toNatClampNeg (0 : Int32).toNatClampNeg (6 : Int32).toNatClampNeg) h1 3)) h1 4)) h1 5)) h0 6 ((sti (sti (sti (cpi I_12 (rq Q h1 2) (rq Q h0 2) (0 : Int32).toNatClampNeg (0 : Int32).toNatClampNeg (6 : Int32).toNatClampNeg) h0 3 ((cpi I_12 (rq Q h1 2) (rq Q h0 2) (0 : Int32).toNatClampNeg (0 : Int32).toNatClampNeg (6 : Int32).toNatClampNeg) h1 3)) h0 4 ((sti (cpi I_12 (rq Q h1 2) (rq Q h0 2) (0 : Int32).toNatClampNeg (0 : Int32).toNatClampNeg (6 : Int32).toNatClampNeg) h0 3 ((cpi I_12 (rq Q h1 2) (rq Q h0 2) (0 : Int32).toNatClampNeg (0 : Int32).toNatClampNeg (6 : Int32).toNatClampNeg) h1 3)) h1 4)) h0 5 ((sti (sti (cpi I_12 (rq Q h1 2) (rq Q h0 2) (0 : Int32).toNatClampNeg (0 : Int32).toNatClampNeg (6 : Int32).toNatClampNeg) h0 3 ((cpi I_12 (rq Q h1 2) (rq Q h0 2) (0 : Int32).toNatClampNeg (0 : Int32).toNatClampNeg (6 : Int32).toNatClampNeg) h1 3)) h0 4 ((sti (cpi I_12 (rq Q h1 2) (rq Q h0 2) (0 : Int32).toNatClampNeg (0 : Int32).toNatClampNeg (6 : Int32).toNatClampNeg) h0 3 ((cpi I_12 (rq Q h1 2) (rq Q h0 2) (0 : Int32).toNatClampNeg (0 : Int32).toNatClampNeg (6 : Int32).toNatClampNeg) h1 3)) h1 4)) h1 5)) h1 6)) h1 7)) h0 8 ((sti (sti (sti (sti (sti (cpi I_12 (rq Q h1 2) (rq Q h0 2) (0 : Int32).toNatClampNeg (0 : Int32).toNatClampNeg (6 : Int32).toNatClampNeg) h0 3 ((cpi I_12 (rq Q h1 2) (rq Q h0 2) (0 : Int32).toNatClampNeg (0 : Int32).toNatClampNeg (6 : Int32).toNatClampNeg) h1 3)) h0 4 ((sti (cpi I_12 (rq Q h1 2) (rq Q h0 2) (0 : Int32).toNatClampNeg (0 : Int32).toNatClampNeg (6 : Int32).toNatClampNeg) h0 3 ((cpi I_12 (rq Q h1 2) (rq Q h0 2) (0 : Int32).toNatClampNeg (0 : Int32).toNatClampNeg (6 : Int32).toNatClampNeg) h1 3)) h1 4)) h0 5 ((sti (sti (cpi I_12 (rq Q h1 2) (rq Q h0 2) (0 : Int32).toNatClampNeg (0 : Int32).toNatClampNeg (6 : Int32).toNatClampNeg) h0 3 ((cpi I_12 (rq Q h1 2) (rq Q h0 2) (0 : Int32).toNatClampNeg (0 : Int32).toNatClampNeg (6 : Int32).toNatClampNeg) h1 3)) h0 4 ((sti (cpi I_12 (rq Q h1 2) (rq Q h0 2) (0 : Int32).toNatClampNeg (0 : Int32).toNatClampNeg (6 : Int32).toNatClampNeg) h0 3 ((cpi I_12 (rq Q h1 2) (rq Q h0 2) (0 : Int32).toNatClampNeg (0 : Int32).toNatClampNeg (6 : Int32).toNatClampNeg) h1 3)) h1 4)) h1 5)) h0 6 ((sti (sti (sti (cpi I_12 (rq Q h1 2) (rq Q h0 2) (0 : Int32).toNatClampNeg (0 : Int32).toNatClampNeg (6 : Int32).toNatClampNeg) h0 3 ((cpi I_12 (rq Q h1 2) (rq Q h0 2) (0 : Int32).toNatClampNeg (0 : Int32).toNatClampNeg (6 : Int32).toNatClampNeg) h1 3)) h0 4 ((sti (cpi I_12 (rq Q h1 2) (rq Q h0 2) (0 : Int32).toNatClampNeg (0 : Int32).toNatClampNeg (6 : Int32).toNatClampNeg) h0 3 ((cpi I_12 (rq Q h1 2) (rq Q h0 2) (0 : Int32).toNatClampNeg (0 : Int32).toNatClampNeg (6 : Int32).toNatClampNeg) h1 3)) h1 4)) h0 5 ((sti (sti (cpi I_12 (rq Q h1 2) (rq Q h0 2) (0 : Int32).toNatClampNeg (0 : Int32).toNatClampNeg (6 : Int32).toNatClampNeg) h0 3 ((cpi I_12 (rq Q h1 2) (rq Q h0 2) (0 : Int32).toNatClampNeg (0 : Int32).toNatClampNeg (6 : Int32).toNatClampNeg) h1 3)) h0 4 ((sti (cpi I_12 (rq Q h1 2) (rq Q h0 2) (0 : Int32).toNatClampNeg (0 : Int32).toNatClampNeg (6 : Int32).toNatClampNeg) h0 3 ((cpi I_12 (rq Q h1 2) (rq Q h0 2) (0 : Int32).toNatClampNeg (0 : Int32).toNatClampNeg (6 : Int32).toNatClampNeg) h1 3)) h1 4)) h1 5)) h1 6)) h0 7 ((sti (sti (sti (sti (cpi I_12 (rq Q h1 2) (rq Q h0 2) (0 : Int32).toNatClampNeg (0 : Int32).toNatClampNeg (6 : Int32).toNatClampNeg) h0 3 ((cpi I_12 (rq Q h1 2) (rq Q h0 2) (0 : Int32).toNatClampNeg (0 : Int32).toNatClampNeg (6 : Int32).toNatClampNeg) h1 3)) h0 4 ((sti (cpi I_12 (rq Q h1 2) (rq Q h0 2) (0 : Int32).toNatClampNeg (0 : Int32).toNatClampNeg (6 : Int32).toNatClampNeg) h0 3 ((cpi I_12 (rq Q h1 2) (rq Q h0 2) (0 : Int32).toNatClampNeg (0 : Int32).toNatClampNeg (6 : Int32).toNatClampNeg) h1 3)) h1 4)) h0 5 ((sti (sti (cpi I_12 (rq Q h1 2) (rq Q h0 2) (0 : Int32).toNatClampNeg (0 : Int32).toNatClampNeg (6 : Int32).toNatClampNeg) h0 3 ((cpi I_12 (rq Q h1 2) (rq Q h0 2) (0 : Int32).toNatClampNeg (0 : Int32).toNatClampNeg (6 : Int32).toNatClampNeg) h1 3)) h0 4 ((sti (cpi I_12 (rq Q h1 2) (rq Q h0 2) (0 : Int32).toNatClampNeg (0 : Int32).toNatClampNeg (6 : Int32).toNatClampNeg) h0 3 ((cpi I_12 (rq Q h1 2) (rq Q h0 2) (0 : Int32).toNatClampNeg (0 : Int32).toNatClampNeg (6 : Int32).toNatClampNeg) h1 3)) h1 4)) h1 5)) h0 6 ((sti (sti (sti (cpi I_12 (rq Q h1 2) (rq Q h0 2) (0 : Int32).toNatClampNeg (0 : Int32).toNatClampNeg (6 : Int32).toNatClampNeg) h0 3 ((cpi I_12 (rq Q h1 2) (rq Q h0 2) (0 : Int32).toNatClampNeg (0 : Int32).toNatClampNeg (6 : Int32).toNatClampNeg) h1 3)) h0 4 ((sti (cpi I_12 (rq Q h1 2) (rq Q h0 2) (0 : Int32).toNatClampNeg (0 : Int32).toNatClampNeg (6 : Int32).toNatClampNeg) h0 3 ((cpi I_12 (rq Q h1 2) (rq Q h0 2) (0 : Int32).toNatClampNeg (0 : Int32).toNatClampNeg (6 : Int32).toNatClampNeg) h1 3)) h1 4)) h0 5 ((sti (sti (cpi I_12 (rq Q h1 2) (rq Q h0 2) (0 : Int32).toNatClampNeg (0 : Int32).toNatClampNeg (6 : Int32).toNatClampNeg) h0 3 ((cpi I_12 (rq Q h1 2) (rq Q h0 2) (0 : Int32).toNatClampNeg (0 : Int32).toNatClampNeg (6 : Int32).toNatClampNeg) h1 3)) h0 4 ((sti (cpi I_12 (rq Q h1 2) (rq Q h0 2) (0 : Int32).toNatClampNeg (0 : Int32).toNatClampNeg (6 : Int32).toNatClampNeg) h0 3 ((cpi I_12 (rq Q h1 2) (rq Q h0 2) (0 : Int32).toNatClampNeg (0 : Int32).toNatClampNeg (6 : Int32).toNatClampNeg) h1 3)) h1 4)) h1 5)) h1 6)) h1 7)) h1 8))) n13 I_4 x2_4 → WF Z N T Q → GG p l e ({ frames := 2, cells := 0, slots := 0, locals := 61 }) s m [.ref (ad h0), .ref (ad h1)].toArray below meth c 3 A D D2 0 0 (MQ below (va_Qv (fun (u : KS) => post u.1 ∧ u.2.1 = J ∧ u.2.2 = Q ∧ WF Z N T u.2.2) (Bw D D2 ad N T) A) [.ref (ad h0), .ref (ad h1)].toArray s 0 0 A) ad N T I_4 J Q 13 [(0, .ref (ad h0)), (1, .ref (ad h1)), (2, .int x2_4)] [] := by
    intro n13
    induction n13 with
    | zero => intro I_4 x2_4 hw; exact hw.elim
    | succ n13 ih_u11 =>
      intro I_4 x2_4 hw hWF
      unfold wp_X1_take_L13 at hw
      refine g_iload_n C dX1_take_13 rfl 2 rfl ?_
      refine g_bipush (v := (6 : Int32)) C dX1_take_14 (by decide) ?_
      refine g_icmp_ge (tgt := 40) C dX1_take_16 (by decide) (fun c16 => ?_) (fun c16 => ?_)
      · have hw := hw.1 c16
        refine g_sub [0, 1] rfl ?_
        exact K40_u11 I_4 hw hWF
      · have hw := hw.2 c16
        refine g_aload_n C dX1_take_19 rfl 0 rfl ?_
        refine g_getQ C dX1_take_20 ft_73 z0 (hWF.q z0 1 rfl) ?_
        have zz17 := hWF.r z0 1 rfl
        refine g_iload_n C dX1_take_23 rfl 2 rfl ?_
        have hrzz18 := rft_eS hw.1
        refine g_aaldS C dX1_take_24 zz17 hw.1 (hWF.q zz17 _ hrzz18) ?_
        have zz18 := hWF.r zz17 _ hrzz18
        have hw := hw.2
        refine g_aload_n C dX1_take_25 rfl 1 rfl ?_
        refine g_getQ C dX1_take_26 ft_73 z1 (hWF.q z1 1 rfl) ?_
        have zz19 := hWF.r z1 1 rfl
        refine g_iload_n C dX1_take_29 rfl 2 rfl ?_
        have hrzz20 := rft_eS hw.1
        refine g_aaldS C dX1_take_30 zz19 hw.1 (hWF.q zz19 _ hrzz20) ?_
        have zz20 := hWF.r zz19 _ hrzz20
        have hw := hw.2
        refine g_callVv (As := [.ref (ad (rq Q (rq Q h1 1) x2_4.toNatClampNeg))]) C dX1_take_31 ft_22 zz18 ft_74 ft_39 (met_X7_take l hWF zz18 zz20 hw) ⟨rfl, rfl, Nat.le_of_ble_eq_true rfl, Nat.le_of_ble_eq_true rfl⟩ ⟨Nat.zero_le _, Nat.zero_le _⟩ rfl rfl (Nat.le_of_ble_eq_true rfl) (fun I21 J21 Q21 hp => ?_)
        obtain ⟨hw, eJ, eQ, hWF⟩ := hp
        have eJ : J = J21 := Eq.symm eJ
        subst eJ
        have eQ : Q = Q21 := Eq.symm eQ
        subst eQ
        try dsimp only at hw hWF
        refine g_iinc (v := (x2_4 + (1 : Int32))) (lv' := [(2, .int (x2_4 + (1 : Int32))), (0, .ref (ad h0)), (1, .ref (ad h1))]) C dX1_take_34 (q := 2) rfl rfl (by decide) rfl ?_
        refine g_goto C dX1_take_37 (tgt := 13) (by decide) ?_
        refine g_sub [1, 2, 0] rfl ?_
        exact ih_u11 I21 (x2_4 + (1 : Int32)) hw hWF
  obtain ⟨n_u11, hw⟩ := hw
  refine g_sub [1, 2, 0] rfl ?_
  exact L13_u11 n_u11 I3 (0 : Int32) hw hWF
def wp_X1_hasNode (I : KI) (h0 : Nat) (x1 : Int32) (post : Int32 → Prop) : Prop := ((x1 < 0 → post (0 : Int32)) ∧ (¬ x1 < 0 → (((I h0 3) ≤ x1 → post (0 : Int32)) ∧ (¬ (I h0 3) ≤ x1 → post (1 : Int32)))))
set_option maxHeartbeats 4000000 in
set_option maxRecDepth 100000 in
theorem met_X1_hasNode {Z : Nat → Prop} {A : Nat → Prop} {D : va_G} {D2 : Nat → ClassId} {ad : Nat → Nat} {N : Nat} {T : Nat → Nat × Nat} (l : Launch) {I : KI} {J : KJ} {Q : KQ} {h0 : Nat} {x1 : Int32} {post : Int32 → Prop} (hWF : WF Z N T Q) (z0 : OKr Z N T h0 (1, 0)) (hw : wp_X1_hasNode I h0 x1 post) : Met l yX1_hasNode (.code yX1_hasNode cX1_hasNode 2 (some .boolean) :: BIG) ({ frames := 0, cells := 0, slots := 0, locals := 0 }) (Pr D D2 A ad N T I J Q [.ref (ad h0), .int x1]) (va_Qi (fun (r : Int32) (u : KS) => post r ∧ u.1 = I ∧ u.2.1 = J ∧ u.2.2 = Q ∧ WF Z N T u.2.2) (Bw D D2 ad N T) A) 0 0 A := by
  refine Met_GG (lv0 := [(0, .ref (ad h0)), (1, .int x1)]) (by decide +kernel) [.ref (ad h0), .int x1] (Nat.le_of_ble_eq_true rfl) rfl ?_
  intro p e s m below meth c C hr
  have C : CX p s m [.ref (ad h0), .int x1].toArray meth c cX1_hasNode 2 RX1 A D D2 := C
  unfold wp_X1_hasNode at hw
  refine g_iload_n C dX1_hasNode_0 rfl 1 rfl ?_
  refine g_if_lt (tgt := 16) C dX1_hasNode_1 (by decide) (fun c1 => ?_) (fun c1 => ?_)
  · have hw := hw.1 c1
    refine g_iconst (v := (0 : Int32)) C dX1_hasNode_16 (by decide) ?_
    exact g_zret C dX1_hasNode_17 hr rfl ⟨hw, rfl, rfl, rfl, hWF⟩
  · have hw := hw.2 c1
    refine g_iload_n C dX1_hasNode_4 rfl 1 rfl ?_
    refine g_aload_n C dX1_hasNode_5 rfl 0 rfl ?_
    refine g_getI C dX1_hasNode_6 ft_77 z0 ?_
    refine g_icmp_ge (tgt := 16) C dX1_hasNode_9 (by decide) (fun c2 => ?_) (fun c2 => ?_)
    · have hw := hw.1 c2
      refine g_iconst (v := (0 : Int32)) C dX1_hasNode_16 (by decide) ?_
      exact g_zret C dX1_hasNode_17 hr rfl ⟨hw, rfl, rfl, rfl, hWF⟩
    · have hw := hw.2 c2
      refine g_iconst (v := (1 : Int32)) C dX1_hasNode_12 (by decide) ?_
      refine g_goto C dX1_hasNode_13 (tgt := 17) (by decide) ?_
      exact g_zret C dX1_hasNode_17 hr rfl ⟨hw, rfl, rfl, rfl, hWF⟩
def wp_X1_isSum (I : KI) (h0 : Nat) (x1 : Int32) (post : Int32 → Prop) : Prop := ((x1 < 0 → post (0 : Int32)) ∧ (¬ x1 < 0 → ((((1 : Int32) <<< ((I h0 4) &&& 31)) ≤ x1 → post (0 : Int32)) ∧ (¬ ((1 : Int32) <<< ((I h0 4) &&& 31)) ≤ x1 → post (1 : Int32)))))
set_option maxHeartbeats 4000000 in
set_option maxRecDepth 100000 in
theorem met_X1_isSum {Z : Nat → Prop} {A : Nat → Prop} {D : va_G} {D2 : Nat → ClassId} {ad : Nat → Nat} {N : Nat} {T : Nat → Nat × Nat} (l : Launch) {I : KI} {J : KJ} {Q : KQ} {h0 : Nat} {x1 : Int32} {post : Int32 → Prop} (hWF : WF Z N T Q) (z0 : OKr Z N T h0 (1, 0)) (hw : wp_X1_isSum I h0 x1 post) : Met l yX1_isSum (.code yX1_isSum cX1_isSum 2 (some .boolean) :: BIG) ({ frames := 0, cells := 0, slots := 0, locals := 0 }) (Pr D D2 A ad N T I J Q [.ref (ad h0), .int x1]) (va_Qi (fun (r : Int32) (u : KS) => post r ∧ u.1 = I ∧ u.2.1 = J ∧ u.2.2 = Q ∧ WF Z N T u.2.2) (Bw D D2 ad N T) A) 0 0 A := by
  refine Met_GG (lv0 := [(0, .ref (ad h0)), (1, .int x1)]) (by decide +kernel) [.ref (ad h0), .int x1] (Nat.le_of_ble_eq_true rfl) rfl ?_
  intro p e s m below meth c C hr
  have C : CX p s m [.ref (ad h0), .int x1].toArray meth c cX1_isSum 2 RX1 A D D2 := C
  unfold wp_X1_isSum at hw
  refine g_iload_n C dX1_isSum_0 rfl 1 rfl ?_
  refine g_if_lt (tgt := 18) C dX1_isSum_1 (by decide) (fun c1 => ?_) (fun c1 => ?_)
  · have hw := hw.1 c1
    refine g_iconst (v := (0 : Int32)) C dX1_isSum_18 (by decide) ?_
    exact g_zret C dX1_isSum_19 hr rfl ⟨hw, rfl, rfl, rfl, hWF⟩
  · have hw := hw.2 c1
    refine g_iload_n C dX1_isSum_4 rfl 1 rfl ?_
    refine g_iconst (v := (1 : Int32)) C dX1_isSum_5 (by decide) ?_
    refine g_aload_n C dX1_isSum_6 rfl 0 rfl ?_
    refine g_getI C dX1_isSum_7 ft_79 z0 ?_
    refine g_ishl C dX1_isSum_10 ?_
    refine g_icmp_ge (tgt := 18) C dX1_isSum_11 (by decide) (fun c2 => ?_) (fun c2 => ?_)
    · have hw := hw.1 c2
      refine g_iconst (v := (0 : Int32)) C dX1_isSum_18 (by decide) ?_
      exact g_zret C dX1_isSum_19 hr rfl ⟨hw, rfl, rfl, rfl, hWF⟩
    · have hw := hw.2 c2
      refine g_iconst (v := (1 : Int32)) C dX1_isSum_14 (by decide) ?_
      refine g_goto C dX1_isSum_15 (tgt := 19) (by decide) ?_
      exact g_zret C dX1_isSum_19 hr rfl ⟨hw, rfl, rfl, rfl, hWF⟩
def wp_X1_ranks_L4 (If_1 : KI) (Qf_1 : KQ) (f0_1 : Nat) (post : Int32 → Prop) : Nat → Int32 → Int32 → Prop
  | 0, _, _ => False
  | n4 + 1, x1_1, x2_1 => (((If_1 f0_1 3) ≤ x2_1 → post x1_1) ∧ (¬ (If_1 f0_1 3) ≤ x2_1 → (vp_in x2_1 6 ∧ wp_X7_rank If_1 Qf_1 (rq Qf_1 (rq Qf_1 f0_1 1) x2_1.toNatClampNeg) (fun r5 => wp_X1_ranks_L4 If_1 Qf_1 f0_1 post n4 (x1_1 + r5) (x2_1 + (1 : Int32))))))
def wp_X1_ranks (I : KI) (Q : KQ) (h0 : Nat) (post : Int32 → Prop) : Prop := (∃ q4, wp_X1_ranks_L4 I Q h0 post q4 (0 : Int32) (0 : Int32))
set_option maxHeartbeats 4000000 in
set_option maxRecDepth 100000 in
theorem met_X1_ranks {Z : Nat → Prop} {A : Nat → Prop} {D : va_G} {D2 : Nat → ClassId} {ad : Nat → Nat} {N : Nat} {T : Nat → Nat × Nat} (l : Launch) {I : KI} {J : KJ} {Q : KQ} {h0 : Nat} {post : Int32 → Prop} (hWF : WF Z N T Q) (z0 : OKr Z N T h0 (1, 0)) (hw : wp_X1_ranks I Q h0 post) : Met l yX1_ranks (.code yX1_ranks cX1_ranks 3 (some .int) :: BIG) ({ frames := 1, cells := 0, slots := 0, locals := 22 }) (Pr D D2 A ad N T I J Q [.ref (ad h0)]) (va_Qi (fun (r : Int32) (u : KS) => post r ∧ u.1 = I ∧ u.2.1 = J ∧ u.2.2 = Q ∧ WF Z N T u.2.2) (Bw D D2 ad N T) A) 0 0 A := by
  refine Met_GG (lv0 := [(0, .ref (ad h0))]) (by decide +kernel) [.ref (ad h0)] (Nat.le_of_ble_eq_true rfl) rfl ?_
  intro p e s m below meth c C hr
  have C : CX p s m [.ref (ad h0)].toArray meth c cX1_ranks 3 RX1 A D D2 := C
  unfold wp_X1_ranks at hw
  refine g_iconst (v := (0 : Int32)) C dX1_ranks_0 (by decide) ?_
  refine g_istore_n (lv' := [(1, .int (0 : Int32)), (0, .ref (ad h0))]) C dX1_ranks_1 rfl (by decide) rfl ?_
  refine g_iconst (v := (0 : Int32)) C dX1_ranks_2 (by decide) ?_
  refine g_istore_n (lv' := [(2, .int (0 : Int32)), (1, .int (0 : Int32)), (0, .ref (ad h0))]) C dX1_ranks_3 rfl (by decide) rfl ?_
  have L4_u6 : ∀ (n4 : Nat) (x1_1 : Int32) (x2_1 : Int32), wp_X1_ranks_L4 I Q h0 post n4 x1_1 x2_1 → WF Z N T Q → GG p l e ({ frames := 1, cells := 0, slots := 0, locals := 22 }) s m [.ref (ad h0)].toArray below meth c 3 A D D2 0 0 (MQ below (va_Qi (fun (r : Int32) (u : KS) => post r ∧ u.1 = I ∧ u.2.1 = J ∧ u.2.2 = Q ∧ WF Z N T u.2.2) (Bw D D2 ad N T) A) [.ref (ad h0)].toArray s 0 0 A) ad N T I J Q 4 [(0, .ref (ad h0)), (1, .int x1_1), (2, .int x2_1)] [] := by
    intro n4
    induction n4 with
    | zero => intro x1_1 x2_1 hw; exact hw.elim
    | succ n4 ih_u6 =>
      intro x1_1 x2_1 hw hWF
      unfold wp_X1_ranks_L4 at hw
      refine g_iload_n C dX1_ranks_4 rfl 2 rfl ?_
      refine g_aload_n C dX1_ranks_5 rfl 0 rfl ?_
      refine g_getI C dX1_ranks_6 ft_77 z0 ?_
      refine g_icmp_ge (tgt := 30) C dX1_ranks_9 (by decide) (fun c8 => ?_) (fun c8 => ?_)
      · have hw := hw.1 c8
        refine g_iload_n C dX1_ranks_30 rfl 1 rfl ?_
        exact g_iret C dX1_ranks_31 hr ⟨hw, rfl, rfl, rfl, hWF⟩
      · have hw := hw.2 c8
        refine g_iload_n C dX1_ranks_12 rfl 1 rfl ?_
        refine g_aload_n C dX1_ranks_13 rfl 0 rfl ?_
        refine g_getQ C dX1_ranks_14 ft_73 z0 (hWF.q z0 1 rfl) ?_
        have zz9 := hWF.r z0 1 rfl
        refine g_iload_n C dX1_ranks_17 rfl 2 rfl ?_
        have hrzz10 := rft_eS hw.1
        refine g_aaldS C dX1_ranks_18 zz9 hw.1 (hWF.q zz9 _ hrzz10) ?_
        have zz10 := hWF.r zz9 _ hrzz10
        have hw := hw.2
        refine g_callVi (As := []) C dX1_ranks_19 ft_22 zz10 ft_90 ft_32 (met_X7_rank l hWF zz10 hw) ⟨rfl, rfl, Nat.le_of_ble_eq_true rfl, Nat.le_of_ble_eq_true rfl⟩ ⟨Nat.zero_le _, Nat.zero_le _⟩ rfl rfl (Nat.le_of_ble_eq_true rfl) (fun r11 I11 J11 Q11 hp => ?_)
        obtain ⟨hw, eI, eJ, eQ, hWF⟩ := hp
        have eI : I = I11 := Eq.symm eI
        subst eI
        have eJ : J = J11 := Eq.symm eJ
        subst eJ
        have eQ : Q = Q11 := Eq.symm eQ
        subst eQ
        try dsimp only at hw hWF
        refine g_iadd C dX1_ranks_22 ?_
        refine g_istore_n (lv' := [(1, .int (x1_1 + r11)), (0, .ref (ad h0)), (2, .int x2_1)]) C dX1_ranks_23 rfl (by decide) rfl ?_
        refine g_iinc (v := (x2_1 + (1 : Int32))) (lv' := [(2, .int (x2_1 + (1 : Int32))), (1, .int (x1_1 + r11)), (0, .ref (ad h0))]) C dX1_ranks_24 (q := 2) rfl rfl (by decide) rfl ?_
        refine g_goto C dX1_ranks_27 (tgt := 4) (by decide) ?_
        refine g_sub [2, 1, 0] rfl ?_
        exact ih_u6 (x1_1 + r11) (x2_1 + (1 : Int32)) hw hWF
  obtain ⟨n_u6, hw⟩ := hw
  refine g_sub [2, 1, 0] rfl ?_
  exact L4_u6 n_u6 (0 : Int32) (0 : Int32) hw hWF
def wp_X1_full_L4 (If_1 : KI) (Qf_1 : KQ) (f0_1 : Nat) (post : Int32 → Prop) : Nat → Int32 → Int32 → Prop
  | 0, _, _ => False
  | n4 + 1, x1_1, x2_1 => (((If_1 f0_1 3) ≤ x2_1 → post x1_1) ∧ (¬ (If_1 f0_1 3) ≤ x2_1 → (vp_in x2_1 6 ∧ wp_X7_rank If_1 Qf_1 (rq Qf_1 (rq Qf_1 f0_1 1) x2_1.toNatClampNeg) (fun r5 => ((¬ r5 = (If_1 f0_1 4) → wp_X1_full_L4 If_1 Qf_1 f0_1 post n4 (x1_1 + (0 : Int32)) (x2_1 + (1 : Int32))) ∧ (r5 = (If_1 f0_1 4) → wp_X1_full_L4 If_1 Qf_1 f0_1 post n4 (x1_1 + (1 : Int32)) (x2_1 + (1 : Int32))))))))
def wp_X1_full (I : KI) (Q : KQ) (h0 : Nat) (post : Int32 → Prop) : Prop := (∃ q4, wp_X1_full_L4 I Q h0 post q4 (0 : Int32) (0 : Int32))
set_option maxHeartbeats 4000000 in
set_option maxRecDepth 100000 in
theorem met_X1_full {Z : Nat → Prop} {A : Nat → Prop} {D : va_G} {D2 : Nat → ClassId} {ad : Nat → Nat} {N : Nat} {T : Nat → Nat × Nat} (l : Launch) {I : KI} {J : KJ} {Q : KQ} {h0 : Nat} {post : Int32 → Prop} (hWF : WF Z N T Q) (z0 : OKr Z N T h0 (1, 0)) (hw : wp_X1_full I Q h0 post) : Met l yX1_full (.code yX1_full cX1_full 3 (some .int) :: BIG) ({ frames := 1, cells := 0, slots := 0, locals := 22 }) (Pr D D2 A ad N T I J Q [.ref (ad h0)]) (va_Qi (fun (r : Int32) (u : KS) => post r ∧ u.1 = I ∧ u.2.1 = J ∧ u.2.2 = Q ∧ WF Z N T u.2.2) (Bw D D2 ad N T) A) 0 0 A := by
  refine Met_GG (lv0 := [(0, .ref (ad h0))]) (by decide +kernel) [.ref (ad h0)] (Nat.le_of_ble_eq_true rfl) rfl ?_
  intro p e s m below meth c C hr
  have C : CX p s m [.ref (ad h0)].toArray meth c cX1_full 3 RX1 A D D2 := C
  unfold wp_X1_full at hw
  refine g_iconst (v := (0 : Int32)) C dX1_full_0 (by decide) ?_
  refine g_istore_n (lv' := [(1, .int (0 : Int32)), (0, .ref (ad h0))]) C dX1_full_1 rfl (by decide) rfl ?_
  refine g_iconst (v := (0 : Int32)) C dX1_full_2 (by decide) ?_
  refine g_istore_n (lv' := [(2, .int (0 : Int32)), (1, .int (0 : Int32)), (0, .ref (ad h0))]) C dX1_full_3 rfl (by decide) rfl ?_
  have L4_u7 : ∀ (n4 : Nat) (x1_1 : Int32) (x2_1 : Int32), wp_X1_full_L4 I Q h0 post n4 x1_1 x2_1 → WF Z N T Q → GG p l e ({ frames := 1, cells := 0, slots := 0, locals := 22 }) s m [.ref (ad h0)].toArray below meth c 3 A D D2 0 0 (MQ below (va_Qi (fun (r : Int32) (u : KS) => post r ∧ u.1 = I ∧ u.2.1 = J ∧ u.2.2 = Q ∧ WF Z N T u.2.2) (Bw D D2 ad N T) A) [.ref (ad h0)].toArray s 0 0 A) ad N T I J Q 4 [(0, .ref (ad h0)), (1, .int x1_1), (2, .int x2_1)] [] := by
    intro n4
    induction n4 with
    | zero => intro x1_1 x2_1 hw; exact hw.elim
    | succ n4 ih_u7 =>
      intro x1_1 x2_1 hw hWF
      unfold wp_X1_full_L4 at hw
      refine g_iload_n C dX1_full_4 rfl 2 rfl ?_
      refine g_aload_n C dX1_full_5 rfl 0 rfl ?_
      refine g_getI C dX1_full_6 ft_77 z0 ?_
      refine g_icmp_ge (tgt := 42) C dX1_full_9 (by decide) (fun c9 => ?_) (fun c9 => ?_)
      · have hw := hw.1 c9
        refine g_iload_n C dX1_full_42 rfl 1 rfl ?_
        exact g_iret C dX1_full_43 hr ⟨hw, rfl, rfl, rfl, hWF⟩
      · have hw := hw.2 c9
        refine g_iload_n C dX1_full_12 rfl 1 rfl ?_
        refine g_aload_n C dX1_full_13 rfl 0 rfl ?_
        refine g_getQ C dX1_full_14 ft_73 z0 (hWF.q z0 1 rfl) ?_
        have zz10 := hWF.r z0 1 rfl
        refine g_iload_n C dX1_full_17 rfl 2 rfl ?_
        have hrzz11 := rft_eS hw.1
        refine g_aaldS C dX1_full_18 zz10 hw.1 (hWF.q zz10 _ hrzz11) ?_
        have zz11 := hWF.r zz10 _ hrzz11
        have hw := hw.2
        refine g_callVi (As := []) C dX1_full_19 ft_22 zz11 ft_90 ft_32 (met_X7_rank l hWF zz11 hw) ⟨rfl, rfl, Nat.le_of_ble_eq_true rfl, Nat.le_of_ble_eq_true rfl⟩ ⟨Nat.zero_le _, Nat.zero_le _⟩ rfl rfl (Nat.le_of_ble_eq_true rfl) (fun r12 I12 J12 Q12 hp => ?_)
        obtain ⟨hw, eI, eJ, eQ, hWF⟩ := hp
        have eI : I = I12 := Eq.symm eI
        subst eI
        have eJ : J = J12 := Eq.symm eJ
        subst eJ
        have eQ : Q = Q12 := Eq.symm eQ
        subst eQ
        try dsimp only at hw hWF
        refine g_aload_n C dX1_full_22 rfl 0 rfl ?_
        refine g_getI C dX1_full_23 ft_79 z0 ?_
        refine g_icmp_ne (tgt := 33) C dX1_full_26 (by decide) (fun c13 => ?_) (fun c13 => ?_)
        · have hw := hw.1 c13
          refine g_iconst (v := (0 : Int32)) C dX1_full_33 (by decide) ?_
          refine g_iadd C dX1_full_34 ?_
          refine g_istore_n (lv' := [(1, .int (x1_1 + (0 : Int32))), (0, .ref (ad h0)), (2, .int x2_1)]) C dX1_full_35 rfl (by decide) rfl ?_
          refine g_iinc (v := (x2_1 + (1 : Int32))) (lv' := [(2, .int (x2_1 + (1 : Int32))), (1, .int (x1_1 + (0 : Int32))), (0, .ref (ad h0))]) C dX1_full_36 (q := 2) rfl rfl (by decide) rfl ?_
          refine g_goto C dX1_full_39 (tgt := 4) (by decide) ?_
          refine g_sub [2, 1, 0] rfl ?_
          exact ih_u7 (x1_1 + (0 : Int32)) (x2_1 + (1 : Int32)) hw hWF
        · have hw := hw.2 c13
          refine g_iconst (v := (1 : Int32)) C dX1_full_29 (by decide) ?_
          refine g_goto C dX1_full_30 (tgt := 34) (by decide) ?_
          refine g_iadd C dX1_full_34 ?_
          refine g_istore_n (lv' := [(1, .int (x1_1 + (1 : Int32))), (0, .ref (ad h0)), (2, .int x2_1)]) C dX1_full_35 rfl (by decide) rfl ?_
          refine g_iinc (v := (x2_1 + (1 : Int32))) (lv' := [(2, .int (x2_1 + (1 : Int32))), (1, .int (x1_1 + (1 : Int32))), (0, .ref (ad h0))]) C dX1_full_36 (q := 2) rfl rfl (by decide) rfl ?_
          refine g_goto C dX1_full_39 (tgt := 4) (by decide) ?_
          refine g_sub [2, 1, 0] rfl ?_
          exact ih_u7 (x1_1 + (1 : Int32)) (x2_1 + (1 : Int32)) hw hWF
  obtain ⟨n_u7, hw⟩ := hw
  refine g_sub [2, 1, 0] rfl ?_
  exact L4_u7 n_u7 (0 : Int32) (0 : Int32) hw hWF
def wp_X1_allFull (I : KI) (Q : KQ) (h0 : Nat) (post : Int32 → Prop) : Prop := wp_X1_full I Q h0 (fun r1 => ((¬ r1 = (I h0 3) → post (0 : Int32)) ∧ (r1 = (I h0 3) → post (1 : Int32))))
set_option maxHeartbeats 4000000 in
set_option maxRecDepth 100000 in
theorem met_X1_allFull {Z : Nat → Prop} {A : Nat → Prop} {D : va_G} {D2 : Nat → ClassId} {ad : Nat → Nat} {N : Nat} {T : Nat → Nat × Nat} (l : Launch) {I : KI} {J : KJ} {Q : KQ} {h0 : Nat} {post : Int32 → Prop} (hWF : WF Z N T Q) (z0 : OKr Z N T h0 (1, 0)) (hw : wp_X1_allFull I Q h0 post) : Met l yX1_allFull (.code yX1_allFull cX1_allFull 1 (some .boolean) :: BIG) ({ frames := 2, cells := 0, slots := 0, locals := 44 }) (Pr D D2 A ad N T I J Q [.ref (ad h0)]) (va_Qi (fun (r : Int32) (u : KS) => post r ∧ u.1 = I ∧ u.2.1 = J ∧ u.2.2 = Q ∧ WF Z N T u.2.2) (Bw D D2 ad N T) A) 0 0 A := by
  refine Met_GG (lv0 := [(0, .ref (ad h0))]) (by decide +kernel) [.ref (ad h0)] (Nat.le_of_ble_eq_true rfl) rfl ?_
  intro p e s m below meth c C hr
  have C : CX p s m [.ref (ad h0)].toArray meth c cX1_allFull 1 RX1 A D D2 := C
  unfold wp_X1_allFull at hw
  refine g_aload_n C dX1_allFull_0 rfl 0 rfl ?_
  refine g_callVi (As := []) C dX1_allFull_1 ft_46 z0 ft_91 ft_92 (met_X1_full l hWF z0 hw) ⟨rfl, rfl, Nat.le_of_ble_eq_true rfl, Nat.le_of_ble_eq_true rfl⟩ ⟨Nat.zero_le _, Nat.zero_le _⟩ rfl rfl (Nat.le_of_ble_eq_true rfl) (fun r1 I1 J1 Q1 hp => ?_)
  obtain ⟨hw, eI, eJ, eQ, hWF⟩ := hp
  have eI : I = I1 := Eq.symm eI
  subst eI
  have eJ : J = J1 := Eq.symm eJ
  subst eJ
  have eQ : Q = Q1 := Eq.symm eQ
  subst eQ
  try dsimp only at hw hWF
  refine g_aload_n C dX1_allFull_4 rfl 0 rfl ?_
  refine g_getI C dX1_allFull_5 ft_77 z0 ?_
  refine g_icmp_ne (tgt := 15) C dX1_allFull_8 (by decide) (fun c2 => ?_) (fun c2 => ?_)
  · have hw := hw.1 c2
    refine g_iconst (v := (0 : Int32)) C dX1_allFull_15 (by decide) ?_
    exact g_zret C dX1_allFull_16 hr rfl ⟨hw, rfl, rfl, rfl, hWF⟩
  · have hw := hw.2 c2
    refine g_iconst (v := (1 : Int32)) C dX1_allFull_11 (by decide) ?_
    refine g_goto C dX1_allFull_12 (tgt := 16) (by decide) ?_
    exact g_zret C dX1_allFull_16 hr rfl ⟨hw, rfl, rfl, rfl, hWF⟩
def wp_X1_mayBecome  (h0 : Nat) (x1 : Int32) (x2 : Int32) (post : Int32 → Prop) : Prop := ((x1 = 0 → ((x2 < (2 : Int32) → post (0 : Int32)) ∧ (¬ x2 < (2 : Int32) → (((6 : Int32) < x2 → post (0 : Int32)) ∧ (¬ (6 : Int32) < x2 → post (1 : Int32)))))) ∧ (x1 = 1 → ((x2 < (1 : Int32) → post (0 : Int32)) ∧ (¬ x2 < (1 : Int32) → (((8 : Int32) < x2 → post (0 : Int32)) ∧ (¬ (8 : Int32) < x2 → post (1 : Int32)))))) ∧ (x1 = 2 → ((x2 < 0 → post (0 : Int32)) ∧ (¬ x2 < 0 → (((3 : Int32) < x2 → post (0 : Int32)) ∧ (¬ (3 : Int32) < x2 → post (1 : Int32)))))) ∧ (x1 = 3 → ((x2 < (1 : Int32) → post (0 : Int32)) ∧ (¬ x2 < (1 : Int32) → (((9 : Int32) < x2 → post (0 : Int32)) ∧ (¬ (9 : Int32) < x2 → post (1 : Int32)))))) ∧ (¬ x1 = 0 → ¬ x1 = 1 → ¬ x1 = 2 → ¬ x1 = 3 → post (0 : Int32)))
set_option maxHeartbeats 4000000 in
set_option maxRecDepth 100000 in
theorem met_X1_mayBecome {Z : Nat → Prop} {A : Nat → Prop} {D : va_G} {D2 : Nat → ClassId} {ad : Nat → Nat} {N : Nat} {T : Nat → Nat × Nat} (l : Launch) {I : KI} {J : KJ} {Q : KQ} {h0 : Nat} {x1 : Int32} {x2 : Int32} {post : Int32 → Prop} (hWF : WF Z N T Q) (z0 : OKr Z N T h0 (1, 0)) (hw : wp_X1_mayBecome h0 x1 x2 post) : Met l yX1_mayBecome (.code yX1_mayBecome cX1_mayBecome 3 (some .boolean) :: BIG) ({ frames := 0, cells := 0, slots := 0, locals := 0 }) (Pr D D2 A ad N T I J Q [.ref (ad h0), .int x1, .int x2]) (va_Qi (fun (r : Int32) (u : KS) => post r ∧ u.1 = I ∧ u.2.1 = J ∧ u.2.2 = Q ∧ WF Z N T u.2.2) (Bw D D2 ad N T) A) 0 0 A := by
  refine Met_GG (lv0 := [(0, .ref (ad h0)), (1, .int x1), (2, .int x2)]) (by decide +kernel) [.ref (ad h0), .int x1, .int x2] (Nat.le_of_ble_eq_true rfl) rfl ?_
  intro p e s m below meth c C hr
  have C : CX p s m [.ref (ad h0), .int x1, .int x2].toArray meth c cX1_mayBecome 3 RX1 A D D2 := C
  unfold wp_X1_mayBecome at hw
  refine g_iload_n C dX1_mayBecome_0 rfl 1 rfl ?_
  by_cases c1 : x1 = 0
  · have hw := hw.1 c1
    refine g_tableIn (tgt := 32) C dX1_mayBecome_1 (by rw [c1]; decide) (by rw [c1]; decide) (by rw [c1]; rfl) (by decide) ?_
    refine g_iload_n C dX1_mayBecome_32 rfl 2 rfl ?_
    refine g_iconst (v := (2 : Int32)) C dX1_mayBecome_33 (by decide) ?_
    refine g_icmp_lt (tgt := 47) C dX1_mayBecome_34 (by decide) (fun c2 => ?_) (fun c2 => ?_)
    · have hw := hw.1 c2
      refine g_iconst (v := (0 : Int32)) C dX1_mayBecome_47 (by decide) ?_
      exact g_zret C dX1_mayBecome_48 hr rfl ⟨hw, rfl, rfl, rfl, hWF⟩
    · have hw := hw.2 c2
      refine g_iload_n C dX1_mayBecome_37 rfl 2 rfl ?_
      refine g_bipush (v := (6 : Int32)) C dX1_mayBecome_38 (by decide) ?_
      refine g_icmp_gt (tgt := 47) C dX1_mayBecome_40 (by decide) (fun c3 => ?_) (fun c3 => ?_)
      · have hw := hw.1 c3
        refine g_iconst (v := (0 : Int32)) C dX1_mayBecome_47 (by decide) ?_
        exact g_zret C dX1_mayBecome_48 hr rfl ⟨hw, rfl, rfl, rfl, hWF⟩
      · have hw := hw.2 c3
        refine g_iconst (v := (1 : Int32)) C dX1_mayBecome_43 (by decide) ?_
        refine g_goto C dX1_mayBecome_44 (tgt := 48) (by decide) ?_
        exact g_zret C dX1_mayBecome_48 hr rfl ⟨hw, rfl, rfl, rfl, hWF⟩
  by_cases c4 : x1 = 1
  · have hw := hw.2.1 c4
    refine g_tableIn (tgt := 49) C dX1_mayBecome_1 (by rw [c4]; decide) (by rw [c4]; decide) (by rw [c4]; rfl) (by decide) ?_
    refine g_iload_n C dX1_mayBecome_49 rfl 2 rfl ?_
    refine g_iconst (v := (1 : Int32)) C dX1_mayBecome_50 (by decide) ?_
    refine g_icmp_lt (tgt := 64) C dX1_mayBecome_51 (by decide) (fun c5 => ?_) (fun c5 => ?_)
    · have hw := hw.1 c5
      refine g_iconst (v := (0 : Int32)) C dX1_mayBecome_64 (by decide) ?_
      exact g_zret C dX1_mayBecome_65 hr rfl ⟨hw, rfl, rfl, rfl, hWF⟩
    · have hw := hw.2 c5
      refine g_iload_n C dX1_mayBecome_54 rfl 2 rfl ?_
      refine g_bipush (v := (8 : Int32)) C dX1_mayBecome_55 (by decide) ?_
      refine g_icmp_gt (tgt := 64) C dX1_mayBecome_57 (by decide) (fun c6 => ?_) (fun c6 => ?_)
      · have hw := hw.1 c6
        refine g_iconst (v := (0 : Int32)) C dX1_mayBecome_64 (by decide) ?_
        exact g_zret C dX1_mayBecome_65 hr rfl ⟨hw, rfl, rfl, rfl, hWF⟩
      · have hw := hw.2 c6
        refine g_iconst (v := (1 : Int32)) C dX1_mayBecome_60 (by decide) ?_
        refine g_goto C dX1_mayBecome_61 (tgt := 65) (by decide) ?_
        exact g_zret C dX1_mayBecome_65 hr rfl ⟨hw, rfl, rfl, rfl, hWF⟩
  by_cases c7 : x1 = 2
  · have hw := hw.2.2.1 c7
    refine g_tableIn (tgt := 66) C dX1_mayBecome_1 (by rw [c7]; decide) (by rw [c7]; decide) (by rw [c7]; rfl) (by decide) ?_
    refine g_iload_n C dX1_mayBecome_66 rfl 2 rfl ?_
    refine g_if_lt (tgt := 79) C dX1_mayBecome_67 (by decide) (fun c8 => ?_) (fun c8 => ?_)
    · have hw := hw.1 c8
      refine g_iconst (v := (0 : Int32)) C dX1_mayBecome_79 (by decide) ?_
      exact g_zret C dX1_mayBecome_80 hr rfl ⟨hw, rfl, rfl, rfl, hWF⟩
    · have hw := hw.2 c8
      refine g_iload_n C dX1_mayBecome_70 rfl 2 rfl ?_
      refine g_iconst (v := (3 : Int32)) C dX1_mayBecome_71 (by decide) ?_
      refine g_icmp_gt (tgt := 79) C dX1_mayBecome_72 (by decide) (fun c9 => ?_) (fun c9 => ?_)
      · have hw := hw.1 c9
        refine g_iconst (v := (0 : Int32)) C dX1_mayBecome_79 (by decide) ?_
        exact g_zret C dX1_mayBecome_80 hr rfl ⟨hw, rfl, rfl, rfl, hWF⟩
      · have hw := hw.2 c9
        refine g_iconst (v := (1 : Int32)) C dX1_mayBecome_75 (by decide) ?_
        refine g_goto C dX1_mayBecome_76 (tgt := 80) (by decide) ?_
        exact g_zret C dX1_mayBecome_80 hr rfl ⟨hw, rfl, rfl, rfl, hWF⟩
  by_cases c10 : x1 = 3
  · have hw := hw.2.2.2.1 c10
    refine g_tableIn (tgt := 81) C dX1_mayBecome_1 (by rw [c10]; decide) (by rw [c10]; decide) (by rw [c10]; rfl) (by decide) ?_
    refine g_iload_n C dX1_mayBecome_81 rfl 2 rfl ?_
    refine g_iconst (v := (1 : Int32)) C dX1_mayBecome_82 (by decide) ?_
    refine g_icmp_lt (tgt := 96) C dX1_mayBecome_83 (by decide) (fun c11 => ?_) (fun c11 => ?_)
    · have hw := hw.1 c11
      refine g_iconst (v := (0 : Int32)) C dX1_mayBecome_96 (by decide) ?_
      exact g_zret C dX1_mayBecome_97 hr rfl ⟨hw, rfl, rfl, rfl, hWF⟩
    · have hw := hw.2 c11
      refine g_iload_n C dX1_mayBecome_86 rfl 2 rfl ?_
      refine g_bipush (v := (9 : Int32)) C dX1_mayBecome_87 (by decide) ?_
      refine g_icmp_gt (tgt := 96) C dX1_mayBecome_89 (by decide) (fun c12 => ?_) (fun c12 => ?_)
      · have hw := hw.1 c12
        refine g_iconst (v := (0 : Int32)) C dX1_mayBecome_96 (by decide) ?_
        exact g_zret C dX1_mayBecome_97 hr rfl ⟨hw, rfl, rfl, rfl, hWF⟩
      · have hw := hw.2 c12
        refine g_iconst (v := (1 : Int32)) C dX1_mayBecome_92 (by decide) ?_
        refine g_goto C dX1_mayBecome_93 (tgt := 97) (by decide) ?_
        exact g_zret C dX1_mayBecome_97 hr rfl ⟨hw, rfl, rfl, rfl, hWF⟩
  have hw := hw.2.2.2.2 c1 c4 c7 c10
  refine g_tableOut (tgt := 98) C dX1_mayBecome_1 (sw_out (fun v h1 h2 => by rcases (show v = 0 ∨ v = 1 ∨ v = 2 ∨ v = 3 by omega) with rfl | rfl | rfl | rfl <;> first | exact c1 | exact c4 | exact c7 | exact c10)) (by decide) ?_
  refine g_iconst (v := (0 : Int32)) C dX1_mayBecome_98 (by decide) ?_
  exact g_zret C dX1_mayBecome_99 hr rfl ⟨hw, rfl, rfl, rfl, hWF⟩
def wp_X1_setting (I : KI) (h0 : Nat) (x1 : Int32) (post : Int32 → Prop) : Prop := ((x1 = 0 → post (I h0 3)) ∧ (x1 = 1 → post (I h0 4)) ∧ (x1 = 2 → post (I h0 5)) ∧ (¬ x1 = 0 → ¬ x1 = 1 → ¬ x1 = 2 → post (I h0 6)))
set_option maxHeartbeats 4000000 in
set_option maxRecDepth 100000 in
theorem met_X1_setting {Z : Nat → Prop} {A : Nat → Prop} {D : va_G} {D2 : Nat → ClassId} {ad : Nat → Nat} {N : Nat} {T : Nat → Nat × Nat} (l : Launch) {I : KI} {J : KJ} {Q : KQ} {h0 : Nat} {x1 : Int32} {post : Int32 → Prop} (hWF : WF Z N T Q) (z0 : OKr Z N T h0 (1, 0)) (hw : wp_X1_setting I h0 x1 post) : Met l yX1_setting (.code yX1_setting cX1_setting 2 (some .int) :: BIG) ({ frames := 0, cells := 0, slots := 0, locals := 0 }) (Pr D D2 A ad N T I J Q [.ref (ad h0), .int x1]) (va_Qi (fun (r : Int32) (u : KS) => post r ∧ u.1 = I ∧ u.2.1 = J ∧ u.2.2 = Q ∧ WF Z N T u.2.2) (Bw D D2 ad N T) A) 0 0 A := by
  refine Met_GG (lv0 := [(0, .ref (ad h0)), (1, .int x1)]) (by decide +kernel) [.ref (ad h0), .int x1] (Nat.le_of_ble_eq_true rfl) rfl ?_
  intro p e s m below meth c C hr
  have C : CX p s m [.ref (ad h0), .int x1].toArray meth c cX1_setting 2 RX1 A D D2 := C
  unfold wp_X1_setting at hw
  refine g_iload_n C dX1_setting_0 rfl 1 rfl ?_
  by_cases c1 : x1 = 0
  · have hw := hw.1 c1
    refine g_tableIn (tgt := 28) C dX1_setting_1 (by rw [c1]; decide) (by rw [c1]; decide) (by rw [c1]; rfl) (by decide) ?_
    refine g_aload_n C dX1_setting_28 rfl 0 rfl ?_
    refine g_getI C dX1_setting_29 ft_77 z0 ?_
    exact g_iret C dX1_setting_32 hr ⟨hw, rfl, rfl, rfl, hWF⟩
  by_cases c2 : x1 = 1
  · have hw := hw.2.1 c2
    refine g_tableIn (tgt := 33) C dX1_setting_1 (by rw [c2]; decide) (by rw [c2]; decide) (by rw [c2]; rfl) (by decide) ?_
    refine g_aload_n C dX1_setting_33 rfl 0 rfl ?_
    refine g_getI C dX1_setting_34 ft_79 z0 ?_
    exact g_iret C dX1_setting_37 hr ⟨hw, rfl, rfl, rfl, hWF⟩
  by_cases c3 : x1 = 2
  · have hw := hw.2.2.1 c3
    refine g_tableIn (tgt := 38) C dX1_setting_1 (by rw [c3]; decide) (by rw [c3]; decide) (by rw [c3]; rfl) (by decide) ?_
    refine g_aload_n C dX1_setting_38 rfl 0 rfl ?_
    refine g_getI C dX1_setting_39 ft_81 z0 ?_
    exact g_iret C dX1_setting_42 hr ⟨hw, rfl, rfl, rfl, hWF⟩
  have hw := hw.2.2.2 c1 c2 c3
  refine g_tableOut (tgt := 43) C dX1_setting_1 (sw_out (fun v h1 h2 => by rcases (show v = 0 ∨ v = 1 ∨ v = 2 by omega) with rfl | rfl | rfl <;> first | exact c1 | exact c2 | exact c3)) (by decide) ?_
  refine g_aload_n C dX1_setting_43 rfl 0 rfl ?_
  refine g_getI C dX1_setting_44 ft_4 z0 ?_
  exact g_iret C dX1_setting_47 hr ⟨hw, rfl, rfl, rfl, hWF⟩
def wp_X7_empty_L2 (Qf_1 : KQ) (f0_1 : Nat) (post : KI → Prop) : Nat → KI → Int32 → Prop
  | 0, _, _ => False
  | n2 + 1, I_1, x1_1 => (((8 : Int32) ≤ x1_1 → post I_1) ∧ (¬ (8 : Int32) ≤ x1_1 → (vp_in x1_1 8 ∧ wp_X7_empty_L2 Qf_1 f0_1 post n2 (sti I_1 (rq Qf_1 f0_1 0) x1_1.toNatClampNeg (0 : Int32)) (x1_1 + (1 : Int32)))))
def wp_X7_empty (I : KI) (Q : KQ) (h0 : Nat) (post : KI → Prop) : Prop := (∃ q2, wp_X7_empty_L2 Q h0 post q2 I (0 : Int32))
set_option maxHeartbeats 4000000 in
set_option maxRecDepth 100000 in
theorem met_X7_empty {Z : Nat → Prop} {A : Nat → Prop} {D : va_G} {D2 : Nat → ClassId} {ad : Nat → Nat} {N : Nat} {T : Nat → Nat × Nat} (l : Launch) {I : KI} {J : KJ} {Q : KQ} {h0 : Nat} {post : KI → Prop} (hWF : WF Z N T Q) (z0 : OKr Z N T h0 (7, 0)) (hw : wp_X7_empty I Q h0 post) : Met l yX7_empty (.code yX7_empty cX7_empty 2 none :: BIG) ({ frames := 0, cells := 0, slots := 0, locals := 0 }) (Pr D D2 A ad N T I J Q [.ref (ad h0)]) (va_Qv (fun (u : KS) => post u.1 ∧ u.2.1 = J ∧ u.2.2 = Q ∧ WF Z N T u.2.2) (Bw D D2 ad N T) A) 0 0 A := by
  refine Met_GG (lv0 := [(0, .ref (ad h0))]) (by decide +kernel) [.ref (ad h0)] (Nat.le_of_ble_eq_true rfl) rfl ?_
  intro p e s m below meth c C hr
  have C : CX p s m [.ref (ad h0)].toArray meth c cX7_empty 2 RX7 A D D2 := C
  unfold wp_X7_empty at hw
  refine g_iconst (v := (0 : Int32)) C dX7_empty_0 (by decide) ?_
  refine g_istore_n (lv' := [(1, .int (0 : Int32)), (0, .ref (ad h0))]) C dX7_empty_1 rfl (by decide) rfl ?_
  have L2_u4 : ∀ (n2 : Nat) (I_1 : KI) (x1_1 : Int32), wp_X7_empty_L2 Q h0 post n2 I_1 x1_1 → WF Z N T Q → GG p l e ({ frames := 0, cells := 0, slots := 0, locals := 0 }) s m [.ref (ad h0)].toArray below meth c 2 A D D2 0 0 (MQ below (va_Qv (fun (u : KS) => post u.1 ∧ u.2.1 = J ∧ u.2.2 = Q ∧ WF Z N T u.2.2) (Bw D D2 ad N T) A) [.ref (ad h0)].toArray s 0 0 A) ad N T I_1 J Q 2 [(0, .ref (ad h0)), (1, .int x1_1)] [] := by
    intro n2
    induction n2 with
    | zero => intro I_1 x1_1 hw; exact hw.elim
    | succ n2 ih_u4 =>
      intro I_1 x1_1 hw hWF
      unfold wp_X7_empty_L2 at hw
      refine g_iload_n C dX7_empty_2 rfl 1 rfl ?_
      refine g_bipush (v := (8 : Int32)) C dX7_empty_3 (by decide) ?_
      refine g_icmp_ge (tgt := 21) C dX7_empty_5 (by decide) (fun c6 => ?_) (fun c6 => ?_)
      · have hw := hw.1 c6
        exact g_vret C dX7_empty_21 hr ⟨hw, rfl, rfl, hWF⟩
      · have hw := hw.2 c6
        refine g_aload_n C dX7_empty_8 rfl 0 rfl ?_
        refine g_getQ C dX7_empty_9 ft_13 z0 (hWF.q z0 0 rfl) ?_
        have zz7 := hWF.r z0 0 rfl
        refine g_iload_n C dX7_empty_12 rfl 1 rfl ?_
        refine g_iconst (v := (0 : Int32)) C dX7_empty_13 (by decide) ?_
        refine g_iast C dX7_empty_14 zz7 hw.1 ?_
        have hw := hw.2
        refine g_iinc (v := (x1_1 + (1 : Int32))) (lv' := [(1, .int (x1_1 + (1 : Int32))), (0, .ref (ad h0))]) C dX7_empty_15 (q := 1) rfl rfl (by decide) rfl ?_
        refine g_goto C dX7_empty_18 (tgt := 2) (by decide) ?_
        refine g_sub [1, 0] rfl ?_
        exact ih_u4 (sti I_1 (rq Q h0 0) x1_1.toNatClampNeg (0 : Int32)) (x1_1 + (1 : Int32)) hw hWF
  obtain ⟨n_u4, hw⟩ := hw
  refine g_sub [1, 0] rfl ?_
  exact L2_u4 n_u4 I (0 : Int32) hw hWF
def wp_X1_forget_L2 (Qf_1 : KQ) (f0_1 : Nat) (post : KI → Prop) : Nat → KI → Int32 → Prop
  | 0, _, _ => False
  | n2 + 1, I_1, x1_1 => (((6 : Int32) ≤ x1_1 → post (sti I_1 f0_1 7 (0 : Int32))) ∧ (¬ (6 : Int32) ≤ x1_1 → (vp_in x1_1 6 ∧ wp_X7_empty I_1 Qf_1 (rq Qf_1 (rq Qf_1 f0_1 1) x1_1.toNatClampNeg) (fun I5 => (vp_in x1_1 6 ∧ wp_X1_forget_L2 Qf_1 f0_1 post n2 (sti I5 (rq Qf_1 f0_1 2) x1_1.toNatClampNeg (0 : Int32)) (x1_1 + (1 : Int32)))))))
def wp_X1_forget (I : KI) (Q : KQ) (h0 : Nat) (post : KI → Prop) : Prop := (∃ q2, wp_X1_forget_L2 Q h0 post q2 I (0 : Int32))
set_option maxHeartbeats 4000000 in
set_option maxRecDepth 100000 in
theorem met_X1_forget {Z : Nat → Prop} {A : Nat → Prop} {D : va_G} {D2 : Nat → ClassId} {ad : Nat → Nat} {N : Nat} {T : Nat → Nat × Nat} (l : Launch) {I : KI} {J : KJ} {Q : KQ} {h0 : Nat} {post : KI → Prop} (hWF : WF Z N T Q) (z0 : OKr Z N T h0 (1, 0)) (hw : wp_X1_forget I Q h0 post) : Met l yX1_forget (.code yX1_forget cX1_forget 2 none :: BIG) ({ frames := 1, cells := 0, slots := 0, locals := 21 }) (Pr D D2 A ad N T I J Q [.ref (ad h0)]) (va_Qv (fun (u : KS) => post u.1 ∧ u.2.1 = J ∧ u.2.2 = Q ∧ WF Z N T u.2.2) (Bw D D2 ad N T) A) 0 0 A := by
  refine Met_GG (lv0 := [(0, .ref (ad h0))]) (by decide +kernel) [.ref (ad h0)] (Nat.le_of_ble_eq_true rfl) rfl ?_
  intro p e s m below meth c C hr
  have C : CX p s m [.ref (ad h0)].toArray meth c cX1_forget 2 RX1 A D D2 := C
  unfold wp_X1_forget at hw
  refine g_iconst (v := (0 : Int32)) C dX1_forget_0 (by decide) ?_
  refine g_istore_n (lv' := [(1, .int (0 : Int32)), (0, .ref (ad h0))]) C dX1_forget_1 rfl (by decide) rfl ?_
  have L2_u7 : ∀ (n2 : Nat) (I_1 : KI) (x1_1 : Int32), wp_X1_forget_L2 Q h0 post n2 I_1 x1_1 → WF Z N T Q → GG p l e ({ frames := 1, cells := 0, slots := 0, locals := 21 }) s m [.ref (ad h0)].toArray below meth c 2 A D D2 0 0 (MQ below (va_Qv (fun (u : KS) => post u.1 ∧ u.2.1 = J ∧ u.2.2 = Q ∧ WF Z N T u.2.2) (Bw D D2 ad N T) A) [.ref (ad h0)].toArray s 0 0 A) ad N T I_1 J Q 2 [(0, .ref (ad h0)), (1, .int x1_1)] [] := by
    intro n2
    induction n2 with
    | zero => intro I_1 x1_1 hw; exact hw.elim
    | succ n2 ih_u7 =>
      intro I_1 x1_1 hw hWF
      unfold wp_X1_forget_L2 at hw
      refine g_iload_n C dX1_forget_2 rfl 1 rfl ?_
      refine g_bipush (v := (6 : Int32)) C dX1_forget_3 (by decide) ?_
      refine g_icmp_ge (tgt := 30) C dX1_forget_5 (by decide) (fun c9 => ?_) (fun c9 => ?_)
      · have hw := hw.1 c9
        refine g_aload_n C dX1_forget_30 rfl 0 rfl ?_
        refine g_iconst (v := (0 : Int32)) C dX1_forget_31 (by decide) ?_
        refine g_putI C dX1_forget_32 ft_85 z0 ?_
        exact g_vret C dX1_forget_35 hr ⟨hw, rfl, rfl, hWF⟩
      · have hw := hw.2 c9
        refine g_aload_n C dX1_forget_8 rfl 0 rfl ?_
        refine g_getQ C dX1_forget_9 ft_73 z0 (hWF.q z0 1 rfl) ?_
        have zz10 := hWF.r z0 1 rfl
        refine g_iload_n C dX1_forget_12 rfl 1 rfl ?_
        have hrzz11 := rft_eS hw.1
        refine g_aaldS C dX1_forget_13 zz10 hw.1 (hWF.q zz10 _ hrzz11) ?_
        have zz11 := hWF.r zz10 _ hrzz11
        have hw := hw.2
        refine g_callVv (As := []) C dX1_forget_14 ft_22 zz11 ft_93 ft_94 (met_X7_empty l hWF zz11 hw) ⟨rfl, rfl, Nat.le_of_ble_eq_true rfl, Nat.le_of_ble_eq_true rfl⟩ ⟨Nat.zero_le _, Nat.zero_le _⟩ rfl rfl (Nat.le_of_ble_eq_true rfl) (fun I12 J12 Q12 hp => ?_)
        obtain ⟨hw, eJ, eQ, hWF⟩ := hp
        have eJ : J = J12 := Eq.symm eJ
        subst eJ
        have eQ : Q = Q12 := Eq.symm eQ
        subst eQ
        try dsimp only at hw hWF
        refine g_aload_n C dX1_forget_17 rfl 0 rfl ?_
        refine g_getQ C dX1_forget_18 ft_75 z0 (hWF.q z0 2 rfl) ?_
        have zz13 := hWF.r z0 2 rfl
        refine g_iload_n C dX1_forget_21 rfl 1 rfl ?_
        refine g_iconst (v := (0 : Int32)) C dX1_forget_22 (by decide) ?_
        refine g_iast C dX1_forget_23 zz13 hw.1 ?_
        have hw := hw.2
        refine g_iinc (v := (x1_1 + (1 : Int32))) (lv' := [(1, .int (x1_1 + (1 : Int32))), (0, .ref (ad h0))]) C dX1_forget_24 (q := 1) rfl rfl (by decide) rfl ?_
        refine g_goto C dX1_forget_27 (tgt := 2) (by decide) ?_
        refine g_sub [1, 0] rfl ?_
        exact ih_u7 (sti I12 (rq Q h0 2) x1_1.toNatClampNeg (0 : Int32)) (x1_1 + (1 : Int32)) hw hWF
  obtain ⟨n_u7, hw⟩ := hw
  refine g_sub [1, 0] rfl ?_
  exact L2_u7 n_u7 I (0 : Int32) hw hWF
def wp_X1_become (I : KI) (Q : KQ) (h0 : Nat) (x1 : Int32) (x2 : Int32) (post : KI → Prop) : Prop := ((x1 = 0 → wp_X4_begin (sti I h0 3 x2) Q (rq Q h0 0) (0 : Int32) (fun I3 => wp_X4_path I3 Q (rq Q h0 0) (0 : Int32) (I3 h0 3) (fun I5 => wp_X1_forget I5 Q h0 (fun I6 => post I6)))) ∧ (x1 = 1 → wp_X1_forget (sti I h0 4 x2) Q h0 (fun I8 => post I8)) ∧ (x1 = 2 → post (sti I h0 5 x2)) ∧ (¬ x1 = 0 → ¬ x1 = 1 → ¬ x1 = 2 → post (sti I h0 6 x2)))
set_option maxHeartbeats 4000000 in
set_option maxRecDepth 100000 in
theorem met_X1_become {Z : Nat → Prop} {A : Nat → Prop} {D : va_G} {D2 : Nat → ClassId} {ad : Nat → Nat} {N : Nat} {T : Nat → Nat × Nat} (l : Launch) {I : KI} {J : KJ} {Q : KQ} {h0 : Nat} {x1 : Int32} {x2 : Int32} {post : KI → Prop} (hWF : WF Z N T Q) (z0 : OKr Z N T h0 (1, 0)) (hw : wp_X1_become I Q h0 x1 x2 post) : Met l yX1_become (.code yX1_become cX1_become 3 none :: BIG) ({ frames := 3, cells := 0, slots := 0, locals := 70 }) (Pr D D2 A ad N T I J Q [.ref (ad h0), .int x1, .int x2]) (va_Qv (fun (u : KS) => post u.1 ∧ u.2.1 = J ∧ u.2.2 = Q ∧ WF Z N T u.2.2) (Bw D D2 ad N T) A) 0 0 A := by
  refine Met_GG (lv0 := [(0, .ref (ad h0)), (1, .int x1), (2, .int x2)]) (by decide +kernel) [.ref (ad h0), .int x1, .int x2] (Nat.le_of_ble_eq_true rfl) rfl ?_
  intro p e s m below meth c C hr
  have C : CX p s m [.ref (ad h0), .int x1, .int x2].toArray meth c cX1_become 3 RX1 A D D2 := C
  unfold wp_X1_become at hw
  refine g_iload_n C dX1_become_0 rfl 1 rfl ?_
  by_cases c1 : x1 = 0
  · have hw := hw.1 c1
    refine g_tableIn (tgt := 28) C dX1_become_1 (by rw [c1]; decide) (by rw [c1]; decide) (by rw [c1]; rfl) (by decide) ?_
    refine g_aload_n C dX1_become_28 rfl 0 rfl ?_
    refine g_iload_n C dX1_become_29 rfl 2 rfl ?_
    refine g_putI C dX1_become_30 ft_78 z0 ?_
    refine g_aload_n C dX1_become_33 rfl 0 rfl ?_
    refine g_getQ C dX1_become_34 ft_6 z0 (hWF.q z0 0 rfl) ?_
    have zz2 := hWF.r z0 0 rfl
    refine g_iconst (v := (0 : Int32)) C dX1_become_37 (by decide) ?_
    refine g_callVv (As := [.int (0 : Int32)]) C dX1_become_38 ft_10 zz2 ft_99 ft_100 (met_X4_begin l hWF zz2 hw) ⟨rfl, rfl, Nat.le_of_ble_eq_true rfl, Nat.le_of_ble_eq_true rfl⟩ ⟨Nat.zero_le _, Nat.zero_le _⟩ rfl rfl (Nat.le_of_ble_eq_true rfl) (fun I3 J3 Q3 hp => ?_)
    obtain ⟨hw, eJ, eQ, hWF⟩ := hp
    have eJ : J = J3 := Eq.symm eJ
    subst eJ
    have eQ : Q = Q3 := Eq.symm eQ
    subst eQ
    try dsimp only at hw hWF
    refine g_aload_n C dX1_become_41 rfl 0 rfl ?_
    refine g_getQ C dX1_become_42 ft_6 z0 (hWF.q z0 0 rfl) ?_
    have zz4 := hWF.r z0 0 rfl
    refine g_iconst (v := (0 : Int32)) C dX1_become_45 (by decide) ?_
    refine g_aload_n C dX1_become_46 rfl 0 rfl ?_
    refine g_getI C dX1_become_47 ft_77 z0 ?_
    refine g_callVv (As := [.int (0 : Int32), .int (I3 h0 3)]) C dX1_become_50 ft_10 zz4 ft_97 ft_98 (met_X4_path l hWF zz4 hw) ⟨rfl, rfl, Nat.le_of_ble_eq_true rfl, Nat.le_of_ble_eq_true rfl⟩ ⟨Nat.zero_le _, Nat.zero_le _⟩ rfl rfl (Nat.le_of_ble_eq_true rfl) (fun I5 J5 Q5 hp => ?_)
    obtain ⟨hw, eJ, eQ, hWF⟩ := hp
    have eJ : J = J5 := Eq.symm eJ
    subst eJ
    have eQ : Q = Q5 := Eq.symm eQ
    subst eQ
    try dsimp only at hw hWF
    refine g_aload_n C dX1_become_53 rfl 0 rfl ?_
    refine g_callVv (As := []) C dX1_become_54 ft_46 z0 ft_95 ft_96 (met_X1_forget l hWF z0 hw) ⟨rfl, rfl, Nat.le_of_ble_eq_true rfl, Nat.le_of_ble_eq_true rfl⟩ ⟨Nat.zero_le _, Nat.zero_le _⟩ rfl rfl (Nat.le_of_ble_eq_true rfl) (fun I6 J6 Q6 hp => ?_)
    obtain ⟨hw, eJ, eQ, hWF⟩ := hp
    have eJ : J = J6 := Eq.symm eJ
    subst eJ
    have eQ : Q = Q6 := Eq.symm eQ
    subst eQ
    try dsimp only at hw hWF
    refine g_goto C dX1_become_57 (tgt := 85) (by decide) ?_
    exact g_vret C dX1_become_85 hr ⟨hw, rfl, rfl, hWF⟩
  by_cases c7 : x1 = 1
  · have hw := hw.2.1 c7
    refine g_tableIn (tgt := 60) C dX1_become_1 (by rw [c7]; decide) (by rw [c7]; decide) (by rw [c7]; rfl) (by decide) ?_
    refine g_aload_n C dX1_become_60 rfl 0 rfl ?_
    refine g_iload_n C dX1_become_61 rfl 2 rfl ?_
    refine g_putI C dX1_become_62 ft_80 z0 ?_
    refine g_aload_n C dX1_become_65 rfl 0 rfl ?_
    refine g_callVv (As := []) C dX1_become_66 ft_46 z0 ft_95 ft_96 (met_X1_forget l hWF z0 hw) ⟨rfl, rfl, Nat.le_of_ble_eq_true rfl, Nat.le_of_ble_eq_true rfl⟩ ⟨Nat.zero_le _, Nat.zero_le _⟩ rfl rfl (Nat.le_of_ble_eq_true rfl) (fun I8 J8 Q8 hp => ?_)
    obtain ⟨hw, eJ, eQ, hWF⟩ := hp
    have eJ : J = J8 := Eq.symm eJ
    subst eJ
    have eQ : Q = Q8 := Eq.symm eQ
    subst eQ
    try dsimp only at hw hWF
    refine g_goto C dX1_become_69 (tgt := 85) (by decide) ?_
    exact g_vret C dX1_become_85 hr ⟨hw, rfl, rfl, hWF⟩
  by_cases c9 : x1 = 2
  · have hw := hw.2.2.1 c9
    refine g_tableIn (tgt := 72) C dX1_become_1 (by rw [c9]; decide) (by rw [c9]; decide) (by rw [c9]; rfl) (by decide) ?_
    refine g_aload_n C dX1_become_72 rfl 0 rfl ?_
    refine g_iload_n C dX1_become_73 rfl 2 rfl ?_
    refine g_putI C dX1_become_74 ft_82 z0 ?_
    refine g_goto C dX1_become_77 (tgt := 85) (by decide) ?_
    exact g_vret C dX1_become_85 hr ⟨hw, rfl, rfl, hWF⟩
  have hw := hw.2.2.2 c1 c7 c9
  refine g_tableOut (tgt := 80) C dX1_become_1 (sw_out (fun v h1 h2 => by rcases (show v = 0 ∨ v = 1 ∨ v = 2 by omega) with rfl | rfl | rfl <;> first | exact c1 | exact c7 | exact c9)) (by decide) ?_
  refine g_aload_n C dX1_become_80 rfl 0 rfl ?_
  refine g_iload_n C dX1_become_81 rfl 2 rfl ?_
  refine g_putI C dX1_become_82 ft_83 z0 ?_
  exact g_vret C dX1_become_85 hr ⟨hw, rfl, rfl, hWF⟩
