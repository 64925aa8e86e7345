def wp_X11_areJoined_L23 (f1_4 : Int32) (f2_4 : Int32) (k84 : Int32 → Int32 → Prop) : Nat → Int32 → Int32 → Int32 → Prop
  | 0, _, _, _ => False
  | n23 + 1, x3_4, x4_4, x5_4 => ((f2_4 ≤ x5_4 → k84 x3_4 x4_4) ∧ (¬ f2_4 ≤ x5_4 → wp_X11_has x3_4 x5_4 (fun r6 => ((r6 = 0 → ((¬ x4_4 = 0 → wp_X11_areJoined_L23 f1_4 f2_4 k84 n23 (x3_4 ||| (0 : Int32)) (1 : Int32) (x5_4 + (1 : Int32))) ∧ (x4_4 = 0 → ((((0 : Int32) &&& (x3_4 ^^^ (-1 : Int32))) = 0 → wp_X11_areJoined_L23 f1_4 f2_4 k84 n23 (x3_4 ||| (0 : Int32)) (0 : Int32) (x5_4 + (1 : Int32))) ∧ (¬ ((0 : Int32) &&& (x3_4 ^^^ (-1 : Int32))) = 0 → wp_X11_areJoined_L23 f1_4 f2_4 k84 n23 (x3_4 ||| (0 : Int32)) (1 : Int32) (x5_4 + (1 : Int32))))))) ∧ (¬ r6 = 0 → wp_X11_linkedBy f1_4 x5_4 f2_4 (0 : Int32) (fun r10 => ((¬ x4_4 = 0 → wp_X11_areJoined_L23 f1_4 f2_4 k84 n23 (x3_4 ||| r10) (1 : Int32) (x5_4 + (1 : Int32))) ∧ (x4_4 = 0 → (((r10 &&& (x3_4 ^^^ (-1 : Int32))) = 0 → wp_X11_areJoined_L23 f1_4 f2_4 k84 n23 (x3_4 ||| r10) (0 : Int32) (x5_4 + (1 : Int32))) ∧ (¬ (r10 &&& (x3_4 ^^^ (-1 : Int32))) = 0 → wp_X11_areJoined_L23 f1_4 f2_4 k84 n23 (x3_4 ||| r10) (1 : Int32) (x5_4 + (1 : Int32))))))))))))
def wp_X11_areJoined_L12 (f1_2 : Int32) (f2_2 : Int32) (k87 : Int32 → Prop) : Nat → Int32 → Int32 → Prop
  | 0, _, _ => False
  | n12 + 1, x3_2, x4_2 => ((x4_2 = 0 → k87 x3_2) ∧ (¬ x4_2 = 0 → (∃ q23, wp_X11_areJoined_L23 f1_2 f2_2 (fun x3_14 x4_14 => wp_X11_areJoined_L12 f1_2 f2_2 k87 n12 x3_14 x4_14) q23 x3_2 (0 : Int32) (0 : Int32))))
def wp_X11_areJoined (I : KI) (Q : KQ) (h0 : Nat) (x1 : Int32) (post : Int32 → Prop) : Prop := (∃ q12, wp_X11_areJoined_L12 x1 (I (rq Q h0 0) (0 : Int32).toNatClampNeg) (fun x3_25 => ((¬ x3_25 = (((1 : Int32) <<< ((I (rq Q h0 0) (0 : Int32).toNatClampNeg) &&& 31)) - (1 : Int32)) → post (0 : Int32)) ∧ (x3_25 = (((1 : Int32) <<< ((I (rq Q h0 0) (0 : Int32).toNatClampNeg) &&& 31)) - (1 : Int32)) → post (1 : Int32)))) q12 (1 : Int32) (1 : Int32))
set_option maxHeartbeats 4000000 in
set_option maxRecDepth 100000 in
theorem met_X11_areJoined {Z : Nat → Prop} {A : Nat → Prop} {D : va_G} {D2 : Nat → ClassId} {ad : Nat → Nat} {N : Nat} {T : Nat → Nat × Nat} (l : Launch) {I : KI} {J : KJ} {Q : KQ} {h0 : Nat} {x1 : Int32} {post : Int32 → Prop} (hWF : WF Z N T Q) (z0 : OKr Z N T h0 (11, 0)) (hw : wp_X11_areJoined I Q h0 x1 post) : Met l yX11_areJoined (.code yX11_areJoined cX11_areJoined 7 (some .boolean) :: BIG) ({ frames := 2, cells := 0, slots := 0, locals := 46 }) (Pr D D2 A ad N T I J Q [.ref (ad h0), .int x1]) (va_Qi (fun (r : Int32) (u : KS) => post r ∧ u.1 = I ∧ u.2.1 = J ∧ u.2.2 = Q ∧ WF Z N T u.2.2) (Bw D D2 ad N T) A) 0 0 A := by
  refine Met_GG (lv0 := [(0, .ref (ad h0)), (1, .int x1)]) (by decide +kernel) [.ref (ad h0), .int x1] (Nat.le_of_ble_eq_true rfl) rfl ?_
  intro p e s m below meth c C hr
  have C : CX p s m [.ref (ad h0), .int x1].toArray meth c cX11_areJoined 7 RX11 A D D2 := C
  unfold wp_X11_areJoined at hw
  refine g_aload_n C dX11_areJoined_0 rfl 0 rfl ?_
  refine g_getQ C dX11_areJoined_1 ft_363 z0 (hWF.q z0 0 rfl) ?_
  have zz1 := hWF.r z0 0 rfl
  refine g_iconst (v := (0 : Int32)) C dX11_areJoined_4 (by decide) ?_
  refine g_iald C dX11_areJoined_5 zz1 (vp_lit (by decide +kernel)) ?_
  refine g_istore_n (lv' := [(2, .int (I (rq Q h0 0) (0 : Int32).toNatClampNeg)), (0, .ref (ad h0)), (1, .int x1)]) C dX11_areJoined_6 rfl (by decide) rfl ?_
  refine g_iconst (v := (1 : Int32)) C dX11_areJoined_7 (by decide) ?_
  refine g_istore_n (lv' := [(3, .int (1 : Int32)), (2, .int (I (rq Q h0 0) (0 : Int32).toNatClampNeg)), (0, .ref (ad h0)), (1, .int x1)]) C dX11_areJoined_8 rfl (by decide) rfl ?_
  refine g_iconst (v := (1 : Int32)) C dX11_areJoined_9 (by decide) ?_
  refine g_istore (lv' := [(4, .int (1 : Int32)), (3, .int (1 : Int32)), (2, .int (I (rq Q h0 0) (0 : Int32).toNatClampNeg)), (0, .ref (ad h0)), (1, .int x1)]) C dX11_areJoined_10 (by decide) rfl ?_
  have K87_u24 : ∀ (x3_25 : Int32), (((¬ x3_25 = (((1 : Int32) <<< ((I (rq Q h0 0) (0 : Int32).toNatClampNeg) &&& 31)) - (1 : Int32)) → post (0 : Int32)) ∧ (x3_25 = (((1 : Int32) <<< ((I (rq Q h0 0) (0 : Int32).toNatClampNeg) &&& 31)) - (1 : Int32)) → post (1 : Int32)))) → WF Z N T Q → GG p l e ({ frames := 2, cells := 0, slots := 0, locals := 46 }) s m [.ref (ad h0), .int x1].toArray below meth c 7 A D D2 0 0 (MQ below (va_Qi (fun (r : Int32) (u : KS) => post r ∧ u.1 = I ∧ u.2.1 = J ∧ u.2.2 = Q ∧ WF Z N T u.2.2) (Bw D D2 ad N T) A) [.ref (ad h0), .int x1].toArray s 0 0 A) ad N T I J Q 87 [(2, .int (I (rq Q h0 0) (0 : Int32).toNatClampNeg)), (3, .int x3_25)] [] := by
    intro x3_25 hw hWF
    refine g_iload_n C dX11_areJoined_87 rfl 1 rfl ?_
    refine g_iconst (v := (1 : Int32)) C dX11_areJoined_88 (by decide) ?_
    refine g_iload_n C dX11_areJoined_89 rfl 0 rfl ?_
    refine g_ishl C dX11_areJoined_90 ?_
    refine g_iconst (v := (1 : Int32)) C dX11_areJoined_91 (by decide) ?_
    refine g_isub C dX11_areJoined_92 ?_
    refine g_icmp_ne (tgt := 100) C dX11_areJoined_93 (by decide) (fun c26 => ?_) (fun c26 => ?_)
    · have hw := hw.1 c26
      refine g_iconst (v := (0 : Int32)) C dX11_areJoined_100 (by decide) ?_
      exact g_zret C dX11_areJoined_101 hr rfl ⟨hw, rfl, rfl, rfl, hWF⟩
    · have hw := hw.2 c26
      refine g_iconst (v := (1 : Int32)) C dX11_areJoined_96 (by decide) ?_
      refine g_goto C dX11_areJoined_97 (tgt := 101) (by decide) ?_
      exact g_zret C dX11_areJoined_101 hr rfl ⟨hw, rfl, rfl, rfl, hWF⟩
  have L12_u24 : ∀ (n12 : Nat) (x3_2 : Int32) (x4_2 : Int32), wp_X11_areJoined_L12 x1 (I (rq Q h0 0) (0 : Int32).toNatClampNeg) (fun x3_25 => ((¬ x3_25 = (((1 : Int32) <<< ((I (rq Q h0 0) (0 : Int32).toNatClampNeg) &&& 31)) - (1 : Int32)) → post (0 : Int32)) ∧ (x3_25 = (((1 : Int32) <<< ((I (rq Q h0 0) (0 : Int32).toNatClampNeg) &&& 31)) - (1 : Int32)) → post (1 : Int32)))) n12 x3_2 x4_2 → WF Z N T Q → GG p l e ({ frames := 2, cells := 0, slots := 0, locals := 46 }) s m [.ref (ad h0), .int x1].toArray below meth c 7 A D D2 0 0 (MQ below (va_Qi (fun (r : Int32) (u : KS) => post r ∧ u.1 = I ∧ u.2.1 = J ∧ u.2.2 = Q ∧ WF Z N T u.2.2) (Bw D D2 ad N T) A) [.ref (ad h0), .int x1].toArray s 0 0 A) ad N T I J Q 12 [(1, .int x1), (2, .int (I (rq Q h0 0) (0 : Int32).toNatClampNeg)), (3, .int x3_2), (4, .int x4_2)] [] := by
    intro n12
    induction n12 with
    | zero => intro x3_2 x4_2 hw; exact hw.elim
    | succ n12 ih_u24 =>
      intro x3_2 x4_2 hw hWF
      unfold wp_X11_areJoined_L12 at hw
      refine g_iload C dX11_areJoined_12 3 rfl ?_
      refine g_if_eq (tgt := 87) C dX11_areJoined_14 (by decide) (fun c28 => ?_) (fun c28 => ?_)
      · have hw := hw.1 c28
        refine g_sub [1, 2] rfl ?_
        exact K87_u24 x3_2 hw hWF
      · have hw := hw.2 c28
        refine g_iconst (v := (0 : Int32)) C dX11_areJoined_17 (by decide) ?_
        refine g_istore (lv' := [(4, .int (0 : Int32)), (1, .int x1), (2, .int (I (rq Q h0 0) (0 : Int32).toNatClampNeg)), (3, .int x3_2)]) C dX11_areJoined_18 (by decide) rfl ?_
        refine g_iconst (v := (0 : Int32)) C dX11_areJoined_20 (by decide) ?_
        refine g_istore (lv' := [(5, .int (0 : Int32)), (4, .int (0 : Int32)), (1, .int x1), (2, .int (I (rq Q h0 0) (0 : Int32).toNatClampNeg)), (3, .int x3_2)]) C dX11_areJoined_21 (by decide) rfl ?_
        have K84_u30 : ∀ (x3_31 : Int32) (x4_31 : Int32), (wp_X11_areJoined_L12 x1 (I (rq Q h0 0) (0 : Int32).toNatClampNeg) (fun x3_25 => ((¬ x3_25 = (((1 : Int32) <<< ((I (rq Q h0 0) (0 : Int32).toNatClampNeg) &&& 31)) - (1 : Int32)) → post (0 : Int32)) ∧ (x3_25 = (((1 : Int32) <<< ((I (rq Q h0 0) (0 : Int32).toNatClampNeg) &&& 31)) - (1 : Int32)) → post (1 : Int32)))) n12 x3_31 x4_31) → WF Z N T Q → GG p l e ({ frames := 2, cells := 0, slots := 0, locals := 46 }) s m [.ref (ad h0), .int x1].toArray below meth c 7 A D D2 0 0 (MQ below (va_Qi (fun (r : Int32) (u : KS) => post r ∧ u.1 = I ∧ u.2.1 = J ∧ u.2.2 = Q ∧ WF Z N T u.2.2) (Bw D D2 ad N T) A) [.ref (ad h0), .int x1].toArray s 0 0 A) ad N T I J Q 84 [(1, .int x1), (2, .int (I (rq Q h0 0) (0 : Int32).toNatClampNeg)), (3, .int x3_31), (4, .int x4_31)] [] := by
          intro x3_31 x4_31 hw hWF
          refine g_goto C dX11_areJoined_84 (tgt := 12) (by decide) ?_
          exact ih_u24 x3_31 x4_31 hw hWF
        have L23_u30 : ∀ (n23 : Nat) (x3_4 : Int32) (x4_4 : Int32) (x5_4 : Int32), wp_X11_areJoined_L23 x1 (I (rq Q h0 0) (0 : Int32).toNatClampNeg) (fun x3_31 x4_31 => wp_X11_areJoined_L12 x1 (I (rq Q h0 0) (0 : Int32).toNatClampNeg) (fun x3_25 => ((¬ x3_25 = (((1 : Int32) <<< ((I (rq Q h0 0) (0 : Int32).toNatClampNeg) &&& 31)) - (1 : Int32)) → post (0 : Int32)) ∧ (x3_25 = (((1 : Int32) <<< ((I (rq Q h0 0) (0 : Int32).toNatClampNeg) &&& 31)) - (1 : Int32)) → post (1 : Int32)))) n12 x3_31 x4_31) n23 x3_4 x4_4 x5_4 → WF Z N T Q → GG p l e ({ frames := 2, cells := 0, slots := 0, locals := 46 }) s m [.ref (ad h0), .int x1].toArray below meth c 7 A D D2 0 0 (MQ below (va_Qi (fun (r : Int32) (u : KS) => post r ∧ u.1 = I ∧ u.2.1 = J ∧ u.2.2 = Q ∧ WF Z N T u.2.2) (Bw D D2 ad N T) A) [.ref (ad h0), .int x1].toArray s 0 0 A) ad N T I J Q 23 [(1, .int x1), (2, .int (I (rq Q h0 0) (0 : Int32).toNatClampNeg)), (3, .int x3_4), (4, .int x4_4), (5, .int x5_4)] [] := by
          intro n23
          induction n23 with
          | zero => intro x3_4 x4_4 x5_4 hw; exact hw.elim
          | succ n23 ih_u30 =>
            intro x3_4 x4_4 x5_4 hw hWF
            unfold wp_X11_areJoined_L23 at hw
            refine g_iload C dX11_areJoined_23 4 rfl ?_
            refine g_iload_n C dX11_areJoined_25 rfl 1 rfl ?_
            refine g_icmp_ge (tgt := 84) C dX11_areJoined_26 (by decide) (fun c33 => ?_) (fun c33 => ?_)
            · have hw := hw.1 c33
              refine g_sub [0, 1, 2, 3] rfl ?_
              exact K84_u30 x3_4 x4_4 hw hWF
            · have hw := hw.2 c33
              refine g_iload_n C dX11_areJoined_29 rfl 2 rfl ?_
              refine g_iload C dX11_areJoined_30 4 rfl ?_
              refine g_callSi (As := [.int x3_4, .int x5_4]) C dX11_areJoined_32 ft_381 ft_382 (met_X11_has l hWF  hw) ⟨rfl, rfl, Nat.le_of_ble_eq_true rfl, Nat.le_of_ble_eq_true rfl⟩ ⟨Nat.zero_le _, Nat.zero_le _⟩ rfl rfl (Nat.le_of_ble_eq_true rfl) (fun r34 I34 J34 Q34 hp => ?_)
              obtain ⟨hw, eI, eJ, eQ, hWF⟩ := hp
              have eI : I = I34 := Eq.symm eI
              subst eI
              have eJ : J = J34 := Eq.symm eJ
              subst eJ
              have eQ : Q = Q34 := Eq.symm eQ
              subst eQ
              try dsimp only at hw hWF
              refine g_if_eq (tgt := 49) C dX11_areJoined_35 (by decide) (fun c35 => ?_) (fun c35 => ?_)
              · have hw := hw.1 c35
                refine g_iconst (v := (0 : Int32)) C dX11_areJoined_49 (by decide) ?_
                refine g_istore (lv' := [(6, .int (0 : Int32)), (1, .int x1), (2, .int (I (rq Q h0 0) (0 : Int32).toNatClampNeg)), (3, .int x3_4), (4, .int x4_4), (5, .int x5_4)]) C dX11_areJoined_50 (by decide) rfl ?_
                refine g_iload C dX11_areJoined_52 4 rfl ?_
                refine g_if_ne (tgt := 66) C dX11_areJoined_54 (by decide) (fun c36 => ?_) (fun c36 => ?_)
                · have hw := hw.1 c36
                  refine g_iconst (v := (1 : Int32)) C dX11_areJoined_66 (by decide) ?_
                  refine g_goto C dX11_areJoined_67 (tgt := 71) (by decide) ?_
                  refine g_istore (lv' := [(4, .int (1 : Int32)), (6, .int (0 : Int32)), (1, .int x1), (2, .int (I (rq Q h0 0) (0 : Int32).toNatClampNeg)), (3, .int x3_4), (5, .int x5_4)]) C dX11_areJoined_71 (by decide) rfl ?_
                  refine g_iload_n C dX11_areJoined_73 rfl 4 rfl ?_
                  refine g_iload C dX11_areJoined_74 1 rfl ?_
                  refine g_ior C dX11_areJoined_76 ?_
                  refine g_istore_n (lv' := [(3, .int (x3_4 ||| (0 : Int32))), (4, .int (1 : Int32)), (6, .int (0 : Int32)), (1, .int x1), (2, .int (I (rq Q h0 0) (0 : Int32).toNatClampNeg)), (5, .int x5_4)]) C dX11_areJoined_77 rfl (by decide) rfl ?_
                  refine g_iinc (v := (x5_4 + (1 : Int32))) (lv' := [(5, .int (x5_4 + (1 : Int32))), (3, .int (x3_4 ||| (0 : Int32))), (4, .int (1 : Int32)), (6, .int (0 : Int32)), (1, .int x1), (2, .int (I (rq Q h0 0) (0 : Int32).toNatClampNeg))]) C dX11_areJoined_78 (q := 5) rfl rfl (by decide) rfl ?_
                  refine g_goto C dX11_areJoined_81 (tgt := 23) (by decide) ?_
                  refine g_sub [4, 5, 1, 2, 0] rfl ?_
                  exact ih_u30 (x3_4 ||| (0 : Int32)) (1 : Int32) (x5_4 + (1 : Int32)) hw hWF
                · have hw := hw.2 c36
                  refine g_iload C dX11_areJoined_57 0 rfl ?_
                  refine g_iload_n C dX11_areJoined_59 rfl 3 rfl ?_
                  refine g_iconst (v := (-1 : Int32)) C dX11_areJoined_60 (by decide) ?_
                  refine g_ixor C dX11_areJoined_61 ?_
                  refine g_iand C dX11_areJoined_62 ?_
                  refine g_if_eq (tgt := 70) C dX11_areJoined_63 (by decide) (fun c37 => ?_) (fun c37 => ?_)
                  · have hw := hw.1 c37
                    refine g_iconst (v := (0 : Int32)) C dX11_areJoined_70 (by decide) ?_
                    refine g_istore (lv' := [(4, .int (0 : Int32)), (6, .int (0 : Int32)), (1, .int x1), (2, .int (I (rq Q h0 0) (0 : Int32).toNatClampNeg)), (3, .int x3_4), (5, .int x5_4)]) C dX11_areJoined_71 (by decide) rfl ?_
                    refine g_iload_n C dX11_areJoined_73 rfl 4 rfl ?_
                    refine g_iload C dX11_areJoined_74 1 rfl ?_
                    refine g_ior C dX11_areJoined_76 ?_
                    refine g_istore_n (lv' := [(3, .int (x3_4 ||| (0 : Int32))), (4, .int (0 : Int32)), (6, .int (0 : Int32)), (1, .int x1), (2, .int (I (rq Q h0 0) (0 : Int32).toNatClampNeg)), (5, .int x5_4)]) C dX11_areJoined_77 rfl (by decide) rfl ?_
                    refine g_iinc (v := (x5_4 + (1 : Int32))) (lv' := [(5, .int (x5_4 + (1 : Int32))), (3, .int (x3_4 ||| (0 : Int32))), (4, .int (0 : Int32)), (6, .int (0 : Int32)), (1, .int x1), (2, .int (I (rq Q h0 0) (0 : Int32).toNatClampNeg))]) C dX11_areJoined_78 (q := 5) rfl rfl (by decide) rfl ?_
                    refine g_goto C dX11_areJoined_81 (tgt := 23) (by decide) ?_
                    refine g_sub [4, 5, 1, 2, 0] rfl ?_
                    exact ih_u30 (x3_4 ||| (0 : Int32)) (0 : Int32) (x5_4 + (1 : Int32)) hw hWF
                  · have hw := hw.2 c37
                    refine g_iconst (v := (1 : Int32)) C dX11_areJoined_66 (by decide) ?_
                    refine g_goto C dX11_areJoined_67 (tgt := 71) (by decide) ?_
                    refine g_istore (lv' := [(4, .int (1 : Int32)), (6, .int (0 : Int32)), (1, .int x1), (2, .int (I (rq Q h0 0) (0 : Int32).toNatClampNeg)), (3, .int x3_4), (5, .int x5_4)]) C dX11_areJoined_71 (by decide) rfl ?_
                    refine g_iload_n C dX11_areJoined_73 rfl 4 rfl ?_
                    refine g_iload C dX11_areJoined_74 1 rfl ?_
                    refine g_ior C dX11_areJoined_76 ?_
                    refine g_istore_n (lv' := [(3, .int (x3_4 ||| (0 : Int32))), (4, .int (1 : Int32)), (6, .int (0 : Int32)), (1, .int x1), (2, .int (I (rq Q h0 0) (0 : Int32).toNatClampNeg)), (5, .int x5_4)]) C dX11_areJoined_77 rfl (by decide) rfl ?_
                    refine g_iinc (v := (x5_4 + (1 : Int32))) (lv' := [(5, .int (x5_4 + (1 : Int32))), (3, .int (x3_4 ||| (0 : Int32))), (4, .int (1 : Int32)), (6, .int (0 : Int32)), (1, .int x1), (2, .int (I (rq Q h0 0) (0 : Int32).toNatClampNeg))]) C dX11_areJoined_78 (q := 5) rfl rfl (by decide) rfl ?_
                    refine g_goto C dX11_areJoined_81 (tgt := 23) (by decide) ?_
                    refine g_sub [4, 5, 1, 2, 0] rfl ?_
                    exact ih_u30 (x3_4 ||| (0 : Int32)) (1 : Int32) (x5_4 + (1 : Int32)) hw hWF
              · have hw := hw.2 c35
                refine g_iload_n C dX11_areJoined_38 rfl 0 rfl ?_
                refine g_iload C dX11_areJoined_39 4 rfl ?_
                refine g_iload_n C dX11_areJoined_41 rfl 1 rfl ?_
                refine g_iconst (v := (0 : Int32)) C dX11_areJoined_42 (by decide) ?_
                refine g_callSi (As := [.int x1, .int x5_4, .int (I (rq Q h0 0) (0 : Int32).toNatClampNeg), .int (0 : Int32)]) C dX11_areJoined_43 ft_383 ft_384 (met_X11_linkedBy l hWF  hw) ⟨rfl, rfl, Nat.le_of_ble_eq_true rfl, Nat.le_of_ble_eq_true rfl⟩ ⟨Nat.zero_le _, Nat.zero_le _⟩ rfl rfl (Nat.le_of_ble_eq_true rfl) (fun r38 I38 J38 Q38 hp => ?_)
                obtain ⟨hw, eI, eJ, eQ, hWF⟩ := hp
                have eI : I = I38 := Eq.symm eI
                subst eI
                have eJ : J = J38 := Eq.symm eJ
                subst eJ
                have eQ : Q = Q38 := Eq.symm eQ
                subst eQ
                try dsimp only at hw hWF
                refine g_goto C dX11_areJoined_46 (tgt := 50) (by decide) ?_
                refine g_istore (lv' := [(6, .int r38), (1, .int x1), (2, .int (I (rq Q h0 0) (0 : Int32).toNatClampNeg)), (3, .int x3_4), (4, .int x4_4), (5, .int x5_4)]) C dX11_areJoined_50 (by decide) rfl ?_
                refine g_iload C dX11_areJoined_52 4 rfl ?_
                refine g_if_ne (tgt := 66) C dX11_areJoined_54 (by decide) (fun c39 => ?_) (fun c39 => ?_)
                · have hw := hw.1 c39
                  refine g_iconst (v := (1 : Int32)) C dX11_areJoined_66 (by decide) ?_
                  refine g_goto C dX11_areJoined_67 (tgt := 71) (by decide) ?_
                  refine g_istore (lv' := [(4, .int (1 : Int32)), (6, .int r38), (1, .int x1), (2, .int (I (rq Q h0 0) (0 : Int32).toNatClampNeg)), (3, .int x3_4), (5, .int x5_4)]) C dX11_areJoined_71 (by decide) rfl ?_
                  refine g_iload_n C dX11_areJoined_73 rfl 4 rfl ?_
                  refine g_iload C dX11_areJoined_74 1 rfl ?_
                  refine g_ior C dX11_areJoined_76 ?_
                  refine g_istore_n (lv' := [(3, .int (x3_4 ||| r38)), (4, .int (1 : Int32)), (6, .int r38), (1, .int x1), (2, .int (I (rq Q h0 0) (0 : Int32).toNatClampNeg)), (5, .int x5_4)]) C dX11_areJoined_77 rfl (by decide) rfl ?_
                  refine g_iinc (v := (x5_4 + (1 : Int32))) (lv' := [(5, .int (x5_4 + (1 : Int32))), (3, .int (x3_4 ||| r38)), (4, .int (1 : Int32)), (6, .int r38), (1, .int x1), (2, .int (I (rq Q h0 0) (0 : Int32).toNatClampNeg))]) C dX11_areJoined_78 (q := 5) rfl rfl (by decide) rfl ?_
                  refine g_goto C dX11_areJoined_81 (tgt := 23) (by decide) ?_
                  refine g_sub [4, 5, 1, 2, 0] rfl ?_
                  exact ih_u30 (x3_4 ||| r38) (1 : Int32) (x5_4 + (1 : Int32)) hw hWF
                · have hw := hw.2 c39
                  refine g_iload C dX11_areJoined_57 0 rfl ?_
                  refine g_iload_n C dX11_areJoined_59 rfl 3 rfl ?_
                  refine g_iconst (v := (-1 : Int32)) C dX11_areJoined_60 (by decide) ?_
                  refine g_ixor C dX11_areJoined_61 ?_
                  refine g_iand C dX11_areJoined_62 ?_
                  refine g_if_eq (tgt := 70) C dX11_areJoined_63 (by decide) (fun c40 => ?_) (fun c40 => ?_)
                  · have hw := hw.1 c40
                    refine g_iconst (v := (0 : Int32)) C dX11_areJoined_70 (by decide) ?_
                    refine g_istore (lv' := [(4, .int (0 : Int32)), (6, .int r38), (1, .int x1), (2, .int (I (rq Q h0 0) (0 : Int32).toNatClampNeg)), (3, .int x3_4), (5, .int x5_4)]) C dX11_areJoined_71 (by decide) rfl ?_
                    refine g_iload_n C dX11_areJoined_73 rfl 4 rfl ?_
                    refine g_iload C dX11_areJoined_74 1 rfl ?_
                    refine g_ior C dX11_areJoined_76 ?_
                    refine g_istore_n (lv' := [(3, .int (x3_4 ||| r38)), (4, .int (0 : Int32)), (6, .int r38), (1, .int x1), (2, .int (I (rq Q h0 0) (0 : Int32).toNatClampNeg)), (5, .int x5_4)]) C dX11_areJoined_77 rfl (by decide) rfl ?_
                    refine g_iinc (v := (x5_4 + (1 : Int32))) (lv' := [(5, .int (x5_4 + (1 : Int32))), (3, .int (x3_4 ||| r38)), (4, .int (0 : Int32)), (6, .int r38), (1, .int x1), (2, .int (I (rq Q h0 0) (0 : Int32).toNatClampNeg))]) C dX11_areJoined_78 (q := 5) rfl rfl (by decide) rfl ?_
                    refine g_goto C dX11_areJoined_81 (tgt := 23) (by decide) ?_
                    refine g_sub [4, 5, 1, 2, 0] rfl ?_
                    exact ih_u30 (x3_4 ||| r38) (0 : Int32) (x5_4 + (1 : Int32)) hw hWF
                  · have hw := hw.2 c40
                    refine g_iconst (v := (1 : Int32)) C dX11_areJoined_66 (by decide) ?_
                    refine g_goto C dX11_areJoined_67 (tgt := 71) (by decide) ?_
                    refine g_istore (lv' := [(4, .int (1 : Int32)), (6, .int r38), (1, .int x1), (2, .int (I (rq Q h0 0) (0 : Int32).toNatClampNeg)), (3, .int x3_4), (5, .int x5_4)]) C dX11_areJoined_71 (by decide) rfl ?_
                    refine g_iload_n C dX11_areJoined_73 rfl 4 rfl ?_
                    refine g_iload C dX11_areJoined_74 1 rfl ?_
                    refine g_ior C dX11_areJoined_76 ?_
                    refine g_istore_n (lv' := [(3, .int (x3_4 ||| r38)), (4, .int (1 : Int32)), (6, .int r38), (1, .int x1), (2, .int (I (rq Q h0 0) (0 : Int32).toNatClampNeg)), (5, .int x5_4)]) C dX11_areJoined_77 rfl (by decide) rfl ?_
                    refine g_iinc (v := (x5_4 + (1 : Int32))) (lv' := [(5, .int (x5_4 + (1 : Int32))), (3, .int (x3_4 ||| r38)), (4, .int (1 : Int32)), (6, .int r38), (1, .int x1), (2, .int (I (rq Q h0 0) (0 : Int32).toNatClampNeg))]) C dX11_areJoined_78 (q := 5) rfl rfl (by decide) rfl ?_
                    refine g_goto C dX11_areJoined_81 (tgt := 23) (by decide) ?_
                    refine g_sub [4, 5, 1, 2, 0] rfl ?_
                    exact ih_u30 (x3_4 ||| r38) (1 : Int32) (x5_4 + (1 : Int32)) hw hWF
        obtain ⟨n_u30, hw⟩ := hw
        refine g_sub [2, 3, 4, 1, 0] rfl ?_
        exact L23_u30 n_u30 x3_2 (0 : Int32) (0 : Int32) hw hWF
  obtain ⟨n_u24, hw⟩ := hw
  refine g_sub [4, 2, 1, 0] rfl ?_
  exact L12_u24 n_u24 (1 : Int32) (1 : Int32) hw hWF
def wp_X11_linksOf (I : KI) (Q : KQ) (h0 : Nat) (x1 : Int32) (post : Int32 → Prop) : Prop := (¬ (I (rq Q h0 0) (3 : Int32).toNatClampNeg) = 0 ∧ (¬ (I (rq Q h0 0) (6 : Int32).toNatClampNeg) = 0 ∧ (vp_in ((7 : Int32) + ((x1 / (I (rq Q h0 0) (3 : Int32).toNatClampNeg)) - (x1 / (I (rq Q h0 0) (3 : Int32).toNatClampNeg)) / (I (rq Q h0 0) (6 : Int32).toNatClampNeg) * (I (rq Q h0 0) (6 : Int32).toNatClampNeg))) 69 ∧ post (I (rq Q h0 0) ((7 : Int32) + ((x1 / (I (rq Q h0 0) (3 : Int32).toNatClampNeg)) - (x1 / (I (rq Q h0 0) (3 : Int32).toNatClampNeg)) / (I (rq Q h0 0) (6 : Int32).toNatClampNeg) * (I (rq Q h0 0) (6 : Int32).toNatClampNeg))).toNatClampNeg))))
set_option maxHeartbeats 4000000 in
set_option maxRecDepth 100000 in
theorem met_X11_linksOf {Z : Nat → Prop} {A : Nat → Prop} {D : va_G} {D2 : Nat → ClassId} {ad : Nat → Nat} {N : Nat} {T : Nat → Nat × Nat} (l : Launch) {I : KI} {J : KJ} {Q : KQ} {h0 : Nat} {x1 : Int32} {post : Int32 → Prop} (hWF : WF Z N T Q) (z0 : OKr Z N T h0 (11, 0)) (hw : wp_X11_linksOf I Q h0 x1 post) : Met l yX11_linksOf (.code yX11_linksOf cX11_linksOf 2 (some .int) :: BIG) ({ frames := 0, cells := 0, slots := 0, locals := 0 }) (Pr D D2 A ad N T I J Q [.ref (ad h0), .int x1]) (va_Qi (fun (r : Int32) (u : KS) => post r ∧ u.1 = I ∧ u.2.1 = J ∧ u.2.2 = Q ∧ WF Z N T u.2.2) (Bw D D2 ad N T) A) 0 0 A := by
  refine Met_GG (lv0 := [(0, .ref (ad h0)), (1, .int x1)]) (by decide +kernel) [.ref (ad h0), .int x1] (Nat.le_of_ble_eq_true rfl) rfl ?_
  intro p e s m below meth c C hr
  have C : CX p s m [.ref (ad h0), .int x1].toArray meth c cX11_linksOf 2 RX11 A D D2 := C
  unfold wp_X11_linksOf at hw
  refine g_aload_n C dX11_linksOf_0 rfl 0 rfl ?_
  refine g_getQ C dX11_linksOf_1 ft_363 z0 (hWF.q z0 0 rfl) ?_
  have zz1 := hWF.r z0 0 rfl
  refine g_bipush (v := (7 : Int32)) C dX11_linksOf_4 (by decide) ?_
  refine g_iload_n C dX11_linksOf_6 rfl 1 rfl ?_
  refine g_aload_n C dX11_linksOf_7 rfl 0 rfl ?_
  refine g_getQ C dX11_linksOf_8 ft_363 z0 (hWF.q z0 0 rfl) ?_
  have zz2 := hWF.r z0 0 rfl
  refine g_iconst (v := (3 : Int32)) C dX11_linksOf_11 (by decide) ?_
  refine g_iald C dX11_linksOf_12 zz2 (vp_lit (by decide +kernel)) ?_
  refine g_idiv C dX11_linksOf_13 hw.1 ?_
  have hw := hw.2
  refine g_aload_n C dX11_linksOf_14 rfl 0 rfl ?_
  refine g_getQ C dX11_linksOf_15 ft_363 z0 (hWF.q z0 0 rfl) ?_
  have zz3 := hWF.r z0 0 rfl
  refine g_bipush (v := (6 : Int32)) C dX11_linksOf_18 (by decide) ?_
  refine g_iald C dX11_linksOf_20 zz3 (vp_lit (by decide +kernel)) ?_
  refine g_irem C dX11_linksOf_21 hw.1 ?_
  have hw := hw.2
  refine g_iadd C dX11_linksOf_22 ?_
  refine g_iald C dX11_linksOf_23 zz1 hw.1 ?_
  have hw := hw.2
  exact g_iret C dX11_linksOf_24 hr ⟨hw, rfl, rfl, rfl, hWF⟩
def wp_X11_present (I : KI) (Q : KQ) (h0 : Nat) (post : Int32 → Prop) : Prop := wp_X11_linksOf I Q h0 (I (rq Q h0 0) (4 : Int32).toNatClampNeg) (fun r2 => post r2)
set_option maxHeartbeats 4000000 in
set_option maxRecDepth 100000 in
theorem met_X11_present {Z : Nat → Prop} {A : Nat → Prop} {D : va_G} {D2 : Nat → ClassId} {ad : Nat → Nat} {N : Nat} {T : Nat → Nat × Nat} (l : Launch) {I : KI} {J : KJ} {Q : KQ} {h0 : Nat} {post : Int32 → Prop} (hWF : WF Z N T Q) (z0 : OKr Z N T h0 (11, 0)) (hw : wp_X11_present I Q h0 post) : Met l yX11_present (.code yX11_present cX11_present 1 (some .int) :: BIG) ({ frames := 1, cells := 0, slots := 0, locals := 21 }) (Pr D D2 A ad N T I J Q [.ref (ad h0)]) (va_Qi (fun (r : Int32) (u : KS) => post r ∧ u.1 = I ∧ u.2.1 = J ∧ u.2.2 = Q ∧ WF Z N T u.2.2) (Bw D D2 ad N T) A) 0 0 A := by
  refine Met_GG (lv0 := [(0, .ref (ad h0))]) (by decide +kernel) [.ref (ad h0)] (Nat.le_of_ble_eq_true rfl) rfl ?_
  intro p e s m below meth c C hr
  have C : CX p s m [.ref (ad h0)].toArray meth c cX11_present 1 RX11 A D D2 := C
  unfold wp_X11_present at hw
  refine g_aload_n C dX11_present_0 rfl 0 rfl ?_
  refine g_aload_n C dX11_present_1 rfl 0 rfl ?_
  refine g_getQ C dX11_present_2 ft_363 z0 (hWF.q z0 0 rfl) ?_
  have zz1 := hWF.r z0 0 rfl
  refine g_iconst (v := (4 : Int32)) C dX11_present_5 (by decide) ?_
  refine g_iald C dX11_present_6 zz1 (vp_lit (by decide +kernel)) ?_
  refine g_callVi (As := [.int (I (rq Q h0 0) (4 : Int32).toNatClampNeg)]) C dX11_present_7 ft_387 z0 ft_385 ft_386 (met_X11_linksOf l hWF z0 hw) ⟨rfl, rfl, Nat.le_of_ble_eq_true rfl, Nat.le_of_ble_eq_true rfl⟩ ⟨Nat.zero_le _, Nat.zero_le _⟩ rfl rfl (Nat.le_of_ble_eq_true rfl) (fun r2 I2 J2 Q2 hp => ?_)
  obtain ⟨hw, eI, eJ, eQ, hWF⟩ := hp
  have eI : I = I2 := Eq.symm eI
  subst eI
  have eJ : J = J2 := Eq.symm eJ
  subst eJ
  have eQ : Q = Q2 := Eq.symm eQ
  subst eQ
  try dsimp only at hw hWF
  exact g_iret C dX11_present_10 hr ⟨hw, rfl, rfl, rfl, hWF⟩
def wp_X11_isKnown (I : KI) (Q : KQ) (h0 : Nat) (x1 : Int32) (x2 : Int32) (post : Int32 → Prop) : Prop := (vp_in (((21 : Int32) + ((8 : Int32) * x1)) + (x2 / (32 : Int32))) 69 ∧ wp_X11_has (I (rq Q h0 0) (((21 : Int32) + ((8 : Int32) * x1)) + (x2 / (32 : Int32))).toNatClampNeg) (x2 - x2 / (32 : Int32) * (32 : Int32)) (fun r2 => ((r2 = 0 ∨ r2 = 1) ∧ post r2)))
set_option maxHeartbeats 4000000 in
set_option maxRecDepth 100000 in
theorem met_X11_isKnown {Z : Nat → Prop} {A : Nat → Prop} {D : va_G} {D2 : Nat → ClassId} {ad : Nat → Nat} {N : Nat} {T : Nat → Nat × Nat} (l : Launch) {I : KI} {J : KJ} {Q : KQ} {h0 : Nat} {x1 : Int32} {x2 : Int32} {post : Int32 → Prop} (hWF : WF Z N T Q) (z0 : OKr Z N T h0 (11, 0)) (hw : wp_X11_isKnown I Q h0 x1 x2 post) : Met l yX11_isKnown (.code yX11_isKnown cX11_isKnown 3 (some .boolean) :: BIG) ({ frames := 1, cells := 0, slots := 0, locals := 21 }) (Pr D D2 A ad N T I J Q [.ref (ad h0), .int x1, .int x2]) (va_Qi (fun (r : Int32) (u : KS) => post r ∧ u.1 = I ∧ u.2.1 = J ∧ u.2.2 = Q ∧ WF Z N T u.2.2) (Bw D D2 ad N T) A) 0 0 A := by
  refine Met_GG (lv0 := [(0, .ref (ad h0)), (1, .int x1), (2, .int x2)]) (by decide +kernel) [.ref (ad h0), .int x1, .int x2] (Nat.le_of_ble_eq_true rfl) rfl ?_
  intro p e s m below meth c C hr
  have C : CX p s m [.ref (ad h0), .int x1, .int x2].toArray meth c cX11_isKnown 3 RX11 A D D2 := C
  unfold wp_X11_isKnown at hw
  refine g_aload_n C dX11_isKnown_0 rfl 0 rfl ?_
  refine g_getQ C dX11_isKnown_1 ft_363 z0 (hWF.q z0 0 rfl) ?_
  have zz1 := hWF.r z0 0 rfl
  refine g_bipush (v := (21 : Int32)) C dX11_isKnown_4 (by decide) ?_
  refine g_bipush (v := (8 : Int32)) C dX11_isKnown_6 (by decide) ?_
  refine g_iload_n C dX11_isKnown_8 rfl 1 rfl ?_
  refine g_imul C dX11_isKnown_9 ?_
  refine g_iadd C dX11_isKnown_10 ?_
  refine g_iload_n C dX11_isKnown_11 rfl 2 rfl ?_
  refine g_bipush (v := (32 : Int32)) C dX11_isKnown_12 (by decide) ?_
  refine g_idiv C dX11_isKnown_14 (by decide) ?_
  refine g_iadd C dX11_isKnown_15 ?_
  refine g_iald C dX11_isKnown_16 zz1 hw.1 ?_
  have hw := hw.2
  refine g_iload_n C dX11_isKnown_17 rfl 2 rfl ?_
  refine g_bipush (v := (32 : Int32)) C dX11_isKnown_18 (by decide) ?_
  refine g_irem C dX11_isKnown_20 (by decide) ?_
  refine g_callSi (As := [.int (I (rq Q h0 0) (((21 : Int32) + ((8 : Int32) * x1)) + (x2 / (32 : Int32))).toNatClampNeg), .int (x2 - x2 / (32 : Int32) * (32 : Int32))]) C dX11_isKnown_21 ft_381 ft_382 (met_X11_has l hWF  hw) ⟨rfl, rfl, Nat.le_of_ble_eq_true rfl, Nat.le_of_ble_eq_true rfl⟩ ⟨Nat.zero_le _, Nat.zero_le _⟩ rfl rfl (Nat.le_of_ble_eq_true rfl) (fun r2 I2 J2 Q2 hp => ?_)
  obtain ⟨hw, eI, eJ, eQ, hWF⟩ := hp
  have eI : I = I2 := Eq.symm eI
  subst eI
  have eJ : J = J2 := Eq.symm eJ
  subst eJ
  have eQ : Q = Q2 := Eq.symm eQ
  subst eQ
  try dsimp only at hw hWF
  exact g_zret C dX11_isKnown_24 hr (nar_b hw.1) ⟨hw.2, rfl, rfl, rfl, hWF⟩
def wp_X11_rank_L4 (If_1 : KI) (Qf_1 : KQ) (f0_1 : Nat) (f1_1 : Int32) (k36 : Int32 → Prop) : Nat → Int32 → Int32 → Prop
  | 0, _, _ => False
  | n4 + 1, x2_1, x3_1 => (((8 : Int32) ≤ x3_1 → k36 x2_1) ∧ (¬ (8 : Int32) ≤ x3_1 → (vp_in (((21 : Int32) + ((8 : Int32) * f1_1)) + x3_1) 69 ∧ wp_X11_ones (If_1 (rq Qf_1 f0_1 0) (((21 : Int32) + ((8 : Int32) * f1_1)) + x3_1).toNatClampNeg) (fun r4 => wp_X11_rank_L4 If_1 Qf_1 f0_1 f1_1 k36 n4 (x2_1 + r4) (x3_1 + (1 : Int32))))))
def wp_X11_rank_L38 (f2_7 : Int32) (post : Int32 → Prop) : Nat → Int32 → Prop
  | 0, _ => False
  | n38 + 1, x3_7 => ((f2_7 ≤ ((1 : Int32) <<< (x3_7 &&& 31)) → post x3_7) ∧ (¬ f2_7 ≤ ((1 : Int32) <<< (x3_7 &&& 31)) → wp_X11_rank_L38 f2_7 post n38 (x3_7 + (1 : Int32))))
def wp_X11_rank (I : KI) (Q : KQ) (h0 : Nat) (x1 : Int32) (post : Int32 → Prop) : Prop := (∃ q4, wp_X11_rank_L4 I Q h0 x1 (fun x2_6 => (∃ q38, wp_X11_rank_L38 x2_6 post q38 (0 : Int32))) q4 (0 : Int32) (0 : Int32))
set_option maxHeartbeats 4000000 in
set_option maxRecDepth 100000 in
theorem met_X11_rank {Z : Nat → Prop} {A : Nat → Prop} {D : va_G} {D2 : Nat → ClassId} {ad : Nat → Nat} {N : Nat} {T : Nat → Nat × Nat} (l : Launch) {I : KI} {J : KJ} {Q : KQ} {h0 : Nat} {x1 : Int32} {post : Int32 → Prop} (hWF : WF Z N T Q) (z0 : OKr Z N T h0 (11, 0)) (hw : wp_X11_rank I Q h0 x1 post) : Met l yX11_rank (.code yX11_rank cX11_rank 4 (some .int) :: BIG) ({ frames := 1, cells := 0, slots := 0, locals := 22 }) (Pr D D2 A ad N T I J Q [.ref (ad h0), .int x1]) (va_Qi (fun (r : Int32) (u : KS) => post r ∧ u.1 = I ∧ u.2.1 = J ∧ u.2.2 = Q ∧ WF Z N T u.2.2) (Bw D D2 ad N T) A) 0 0 A := by
  refine Met_GG (lv0 := [(0, .ref (ad h0)), (1, .int x1)]) (by decide +kernel) [.ref (ad h0), .int x1] (Nat.le_of_ble_eq_true rfl) rfl ?_
  intro p e s m below meth c C hr
  have C : CX p s m [.ref (ad h0), .int x1].toArray meth c cX11_rank 4 RX11 A D D2 := C
  unfold wp_X11_rank at hw
  refine g_iconst (v := (0 : Int32)) C dX11_rank_0 (by decide) ?_
  refine g_istore_n (lv' := [(2, .int (0 : Int32)), (0, .ref (ad h0)), (1, .int x1)]) C dX11_rank_1 rfl (by decide) rfl ?_
  refine g_iconst (v := (0 : Int32)) C dX11_rank_2 (by decide) ?_
  refine g_istore_n (lv' := [(3, .int (0 : Int32)), (2, .int (0 : Int32)), (0, .ref (ad h0)), (1, .int x1)]) C dX11_rank_3 rfl (by decide) rfl ?_
  have K36_u5 : ∀ (x2_6 : Int32), ((∃ q38, wp_X11_rank_L38 x2_6 post q38 (0 : Int32))) → WF Z N T Q → GG p l e ({ frames := 1, cells := 0, slots := 0, locals := 22 }) s m [.ref (ad h0), .int x1].toArray below meth c 4 A D D2 0 0 (MQ below (va_Qi (fun (r : Int32) (u : KS) => post r ∧ u.1 = I ∧ u.2.1 = J ∧ u.2.2 = Q ∧ WF Z N T u.2.2) (Bw D D2 ad N T) A) [.ref (ad h0), .int x1].toArray s 0 0 A) ad N T I J Q 36 [(2, .int x2_6)] [] := by
    intro x2_6 hw hWF
    refine g_iconst (v := (0 : Int32)) C dX11_rank_36 (by decide) ?_
    refine g_istore_n (lv' := [(3, .int (0 : Int32)), (2, .int x2_6)]) C dX11_rank_37 rfl (by decide) rfl ?_
    have L38_u9 : ∀ (n38 : Nat) (x3_7 : Int32), wp_X11_rank_L38 x2_6 post n38 x3_7 → WF Z N T Q → GG p l e ({ frames := 1, cells := 0, slots := 0, locals := 22 }) s m [.ref (ad h0), .int x1].toArray below meth c 4 A D D2 0 0 (MQ below (va_Qi (fun (r : Int32) (u : KS) => post r ∧ u.1 = I ∧ u.2.1 = J ∧ u.2.2 = Q ∧ WF Z N T u.2.2) (Bw D D2 ad N T) A) [.ref (ad h0), .int x1].toArray s 0 0 A) ad N T I J Q 38 [(2, .int x2_6), (3, .int x3_7)] [] := by
      intro n38
      induction n38 with
      | zero => intro x3_7 hw; exact hw.elim
      | succ n38 ih_u9 =>
        intro x3_7 hw hWF
        unfold wp_X11_rank_L38 at hw
        refine g_iconst (v := (1 : Int32)) C dX11_rank_38 (by decide) ?_
        refine g_iload_n C dX11_rank_39 rfl 1 rfl ?_
        refine g_ishl C dX11_rank_40 ?_
        refine g_iload_n C dX11_rank_41 rfl 0 rfl ?_
        refine g_icmp_ge (tgt := 51) C dX11_rank_42 (by decide) (fun c11 => ?_) (fun c11 => ?_)
        · have hw := hw.1 c11
          refine g_iload_n C dX11_rank_51 rfl 1 rfl ?_
          exact g_iret C dX11_rank_52 hr ⟨hw, rfl, rfl, rfl, hWF⟩
        · have hw := hw.2 c11
          refine g_iinc (v := (x3_7 + (1 : Int32))) (lv' := [(3, .int (x3_7 + (1 : Int32))), (2, .int x2_6)]) C dX11_rank_45 (q := 1) rfl rfl (by decide) rfl ?_
          refine g_goto C dX11_rank_48 (tgt := 38) (by decide) ?_
          refine g_sub [1, 0] rfl ?_
          exact ih_u9 (x3_7 + (1 : Int32)) hw hWF
    obtain ⟨n_u9, hw⟩ := hw
    refine g_sub [1, 0] rfl ?_
    exact L38_u9 n_u9 (0 : Int32) hw hWF
  have L4_u5 : ∀ (n4 : Nat) (x2_1 : Int32) (x3_1 : Int32), wp_X11_rank_L4 I Q h0 x1 (fun x2_6 => (∃ q38, wp_X11_rank_L38 x2_6 post q38 (0 : Int32))) n4 x2_1 x3_1 → WF Z N T Q → GG p l e ({ frames := 1, cells := 0, slots := 0, locals := 22 }) s m [.ref (ad h0), .int x1].toArray below meth c 4 A D D2 0 0 (MQ below (va_Qi (fun (r : Int32) (u : KS) => post r ∧ u.1 = I ∧ u.2.1 = J ∧ u.2.2 = Q ∧ WF Z N T u.2.2) (Bw D D2 ad N T) A) [.ref (ad h0), .int x1].toArray s 0 0 A) ad N T I J Q 4 [(0, .ref (ad h0)), (1, .int x1), (2, .int x2_1), (3, .int x3_1)] [] := by
    intro n4
    induction n4 with
    | zero => intro x2_1 x3_1 hw; exact hw.elim
    | succ n4 ih_u5 =>
      intro x2_1 x3_1 hw hWF
      unfold wp_X11_rank_L4 at hw
      refine g_iload_n C dX11_rank_4 rfl 3 rfl ?_
      refine g_bipush (v := (8 : Int32)) C dX11_rank_5 (by decide) ?_
      refine g_icmp_ge (tgt := 36) C dX11_rank_7 (by decide) (fun c13 => ?_) (fun c13 => ?_)
      · have hw := hw.1 c13
        refine g_sub [2] rfl ?_
        exact K36_u5 x2_1 hw hWF
      · have hw := hw.2 c13
        refine g_iload_n C dX11_rank_10 rfl 2 rfl ?_
        refine g_aload_n C dX11_rank_11 rfl 0 rfl ?_
        refine g_getQ C dX11_rank_12 ft_363 z0 (hWF.q z0 0 rfl) ?_
        have zz14 := hWF.r z0 0 rfl
        refine g_bipush (v := (21 : Int32)) C dX11_rank_15 (by decide) ?_
        refine g_bipush (v := (8 : Int32)) C dX11_rank_17 (by decide) ?_
        refine g_iload_n C dX11_rank_19 rfl 1 rfl ?_
        refine g_imul C dX11_rank_20 ?_
        refine g_iadd C dX11_rank_21 ?_
        refine g_iload_n C dX11_rank_22 rfl 3 rfl ?_
        refine g_iadd C dX11_rank_23 ?_
        refine g_iald C dX11_rank_24 zz14 hw.1 ?_
        have hw := hw.2
        refine g_callSi (As := [.int (I (rq Q h0 0) (((21 : Int32) + ((8 : Int32) * x1)) + x3_1).toNatClampNeg)]) C dX11_rank_25 ft_388 ft_389 (met_X11_ones l hWF  hw) ⟨rfl, rfl, Nat.le_of_ble_eq_true rfl, Nat.le_of_ble_eq_true rfl⟩ ⟨Nat.zero_le _, Nat.zero_le _⟩ rfl rfl (Nat.le_of_ble_eq_true rfl) (fun r15 I15 J15 Q15 hp => ?_)
        obtain ⟨hw, eI, eJ, eQ, hWF⟩ := hp
        have eI : I = I15 := Eq.symm eI
        subst eI
        have eJ : J = J15 := Eq.symm eJ
        subst eJ
        have eQ : Q = Q15 := Eq.symm eQ
        subst eQ
        try dsimp only at hw hWF
        refine g_iadd C dX11_rank_28 ?_
        refine g_istore_n (lv' := [(2, .int (x2_1 + r15)), (0, .ref (ad h0)), (1, .int x1), (3, .int x3_1)]) C dX11_rank_29 rfl (by decide) rfl ?_
        refine g_iinc (v := (x3_1 + (1 : Int32))) (lv' := [(3, .int (x3_1 + (1 : Int32))), (2, .int (x2_1 + r15)), (0, .ref (ad h0)), (1, .int x1)]) C dX11_rank_30 (q := 3) rfl rfl (by decide) rfl ?_
        refine g_goto C dX11_rank_33 (tgt := 4) (by decide) ?_
        refine g_sub [2, 3, 1, 0] rfl ?_
        exact ih_u5 (x2_1 + r15) (x3_1 + (1 : Int32)) hw hWF
  obtain ⟨n_u5, hw⟩ := hw
  refine g_sub [2, 3, 1, 0] rfl ?_
  exact L4_u5 n_u5 (0 : Int32) (0 : Int32) hw hWF
def wp_X11_learns_L2 (Qf_1 : KQ) (f0_1 : Nat) (f1_1 : Int32) (k27 : KI → Prop) : Nat → KI → Int32 → Prop
  | 0, _, _ => False
  | n2 + 1, I_1, x3_1 => (((256 : Int32) ≤ x3_1 → k27 I_1) ∧ (¬ (256 : Int32) ≤ x3_1 → wp_X11_isKnown I_1 Qf_1 f0_1 f1_1 x3_1 (fun r4 => (vp_in x3_1 256 ∧ wp_X11_learns_L2 Qf_1 f0_1 f1_1 k27 n2 (sti I_1 (rq Qf_1 f0_1 9) x3_1.toNatClampNeg (vp_nar .boolean r4)) (x3_1 + (1 : Int32))))))
def wp_X11_learns_L39 (Qf_9 : KQ) (f0_9 : Nat) (f1_9 : Int32) (f2_9 : Int32) (post : KI → Prop) : Nat → KI → Int32 → Prop
  | 0, _, _ => False
  | n39 + 1, I_9, x3_9 => (((256 : Int32) ≤ x3_9 → post I_9) ∧ (¬ (256 : Int32) ≤ x3_9 → (vp_in (((21 : Int32) + ((8 : Int32) * f1_9)) + (x3_9 / (32 : Int32))) 69 ∧ (vp_in (x3_9 ^^^ f2_9) 256 ∧ (((I_9 (rq Qf_9 f0_9 9) (x3_9 ^^^ f2_9).toNatClampNeg) = 0 → (vp_in (((21 : Int32) + ((8 : Int32) * f1_9)) + (x3_9 / (32 : Int32))) 69 ∧ wp_X11_learns_L39 Qf_9 f0_9 f1_9 f2_9 post n39 (sti I_9 (rq Qf_9 f0_9 0) (((21 : Int32) + ((8 : Int32) * f1_9)) + (x3_9 / (32 : Int32))).toNatClampNeg ((I_9 (rq Qf_9 f0_9 0) (((21 : Int32) + ((8 : Int32) * f1_9)) + (x3_9 / (32 : Int32))).toNatClampNeg) ||| (0 : Int32))) (x3_9 + (1 : Int32)))) ∧ (¬ (I_9 (rq Qf_9 f0_9 9) (x3_9 ^^^ f2_9).toNatClampNeg) = 0 → (vp_in (((21 : Int32) + ((8 : Int32) * f1_9)) + (x3_9 / (32 : Int32))) 69 ∧ wp_X11_learns_L39 Qf_9 f0_9 f1_9 f2_9 post n39 (sti I_9 (rq Qf_9 f0_9 0) (((21 : Int32) + ((8 : Int32) * f1_9)) + (x3_9 / (32 : Int32))).toNatClampNeg ((I_9 (rq Qf_9 f0_9 0) (((21 : Int32) + ((8 : Int32) * f1_9)) + (x3_9 / (32 : Int32))).toNatClampNeg) ||| ((1 : Int32) <<< ((x3_9 - x3_9 / (32 : Int32) * (32 : Int32)) &&& 31)))) (x3_9 + (1 : Int32)))))))))
def wp_X11_learns (I : KI) (Q : KQ) (h0 : Nat) (x1 : Int32) (x2 : Int32) (post : KI → Prop) : Prop := (∃ q2, wp_X11_learns_L2 Q h0 x1 (fun I_6 => (vp_in x2 256 ∧ (((I_6 (rq Q h0 9) x2.toNatClampNeg) = 0 → (∃ q39, wp_X11_learns_L39 Q h0 x1 x2 post q39 I_6 (0 : Int32))) ∧ (¬ (I_6 (rq Q h0 9) x2.toNatClampNeg) = 0 → post I_6)))) q2 I (0 : Int32))
set_option maxHeartbeats 4000000 in
set_option maxRecDepth 100000 in
theorem met_X11_learns {Z : Nat → Prop} {A : Nat → Prop} {D : va_G} {D2 : Nat → ClassId} {ad : Nat → Nat} {N : Nat} {T : Nat → Nat × Nat} (l : Launch) {I : KI} {J : KJ} {Q : KQ} {h0 : Nat} {x1 : Int32} {x2 : Int32} {post : KI → Prop} (hWF : WF Z N T Q) (z0 : OKr Z N T h0 (11, 0)) (hw : wp_X11_learns I Q h0 x1 x2 post) : Met l yX11_learns (.code yX11_learns cX11_learns 4 none :: BIG) ({ frames := 2, cells := 0, slots := 0, locals := 43 }) (Pr D D2 A ad N T I J Q [.ref (ad h0), .int x1, .int x2]) (va_Qv (fun (u : KS) => post u.1 ∧ u.2.1 = J ∧ u.2.2 = Q ∧ WF Z N T u.2.2) (Bw D D2 ad N T) A) 0 0 A := by
  refine Met_GG (lv0 := [(0, .ref (ad h0)), (1, .int x1), (2, .int x2)]) (by decide +kernel) [.ref (ad h0), .int x1, .int x2] (Nat.le_of_ble_eq_true rfl) rfl ?_
  intro p e s m below meth c C hr
  have C : CX p s m [.ref (ad h0), .int x1, .int x2].toArray meth c cX11_learns 4 RX11 A D D2 := C
  unfold wp_X11_learns at hw
  refine g_iconst (v := (0 : Int32)) C dX11_learns_0 (by decide) ?_
  refine g_istore_n (lv' := [(3, .int (0 : Int32)), (0, .ref (ad h0)), (1, .int x1), (2, .int x2)]) C dX11_learns_1 rfl (by decide) rfl ?_
  have K27_u5 : ∀ (I_6 : KI), ((vp_in x2 256 ∧ (((I_6 (rq Q h0 9) x2.toNatClampNeg) = 0 → (∃ q39, wp_X11_learns_L39 Q h0 x1 x2 post q39 I_6 (0 : Int32))) ∧ (¬ (I_6 (rq Q h0 9) x2.toNatClampNeg) = 0 → post I_6)))) → WF Z N T Q → GG p l e ({ frames := 2, cells := 0, slots := 0, locals := 43 }) s m [.ref (ad h0), .int x1, .int x2].toArray below meth c 4 A D D2 0 0 (MQ below (va_Qv (fun (u : KS) => post u.1 ∧ u.2.1 = J ∧ u.2.2 = Q ∧ WF Z N T u.2.2) (Bw D D2 ad N T) A) [.ref (ad h0), .int x1, .int x2].toArray s 0 0 A) ad N T I_6 J Q 27 [(0, .ref (ad h0)), (1, .int x1), (2, .int x2)] [] := by
    intro I_6 hw hWF
    refine g_aload_n C dX11_learns_27 rfl 0 rfl ?_
    refine g_getQ C dX11_learns_28 ft_390 z0 (hWF.q z0 9 rfl) ?_
    have zz7 := hWF.r z0 9 rfl
    refine g_iload_n C dX11_learns_31 rfl 2 rfl ?_
    refine g_zald C dX11_learns_32 zz7 hw.1 ?_
    have hw := hw.2
    refine g_if_eq (tgt := 37) C dX11_learns_33 (by decide) (fun c8 => ?_) (fun c8 => ?_)
    · have hw := hw.1 c8
      refine g_iconst (v := (0 : Int32)) C dX11_learns_37 (by decide) ?_
      refine g_istore_n (lv' := [(3, .int (0 : Int32)), (0, .ref (ad h0)), (1, .int x1), (2, .int x2)]) C dX11_learns_38 rfl (by decide) rfl ?_
      have L39_u14 : ∀ (n39 : Nat) (I_9 : KI) (x3_9 : Int32), wp_X11_learns_L39 Q h0 x1 x2 post n39 I_9 x3_9 → WF Z N T Q → GG p l e ({ frames := 2, cells := 0, slots := 0, locals := 43 }) s m [.ref (ad h0), .int x1, .int x2].toArray below meth c 4 A D D2 0 0 (MQ below (va_Qv (fun (u : KS) => post u.1 ∧ u.2.1 = J ∧ u.2.2 = Q ∧ WF Z N T u.2.2) (Bw D D2 ad N T) A) [.ref (ad h0), .int x1, .int x2].toArray s 0 0 A) ad N T I_9 J Q 39 [(0, .ref (ad h0)), (1, .int x1), (2, .int x2), (3, .int x3_9)] [] := by
        intro n39
        induction n39 with
        | zero => intro I_9 x3_9 hw; exact hw.elim
        | succ n39 ih_u14 =>
          intro I_9 x3_9 hw hWF
          unfold wp_X11_learns_L39 at hw
          refine g_iload_n C dX11_learns_39 rfl 3 rfl ?_
          refine g_sipush (v := (256 : Int32)) C dX11_learns_40 (by decide) ?_
          refine g_icmp_ge (tgt := 93) C dX11_learns_43 (by decide) (fun c16 => ?_) (fun c16 => ?_)
          · have hw := hw.1 c16
            exact g_vret C dX11_learns_93 hr ⟨hw, rfl, rfl, hWF⟩
          · have hw := hw.2 c16
            refine g_aload_n C dX11_learns_46 rfl 0 rfl ?_
            refine g_getQ C dX11_learns_47 ft_363 z0 (hWF.q z0 0 rfl) ?_
            have zz17 := hWF.r z0 0 rfl
            refine g_bipush (v := (21 : Int32)) C dX11_learns_50 (by decide) ?_
            refine g_bipush (v := (8 : Int32)) C dX11_learns_52 (by decide) ?_
            refine g_iload_n C dX11_learns_54 rfl 1 rfl ?_
            refine g_imul C dX11_learns_55 ?_
            refine g_iadd C dX11_learns_56 ?_
            refine g_iload_n C dX11_learns_57 rfl 3 rfl ?_
            refine g_bipush (v := (32 : Int32)) C dX11_learns_58 (by decide) ?_
            refine g_idiv C dX11_learns_60 (by decide) ?_
            refine g_iadd C dX11_learns_61 ?_
            refine g_dup2 C dX11_learns_62 rfl rfl ?_
            refine g_iald C dX11_learns_63 zz17 hw.1 ?_
            have hw := hw.2
            refine g_aload_n C dX11_learns_64 rfl 0 rfl ?_
            refine g_getQ C dX11_learns_65 ft_390 z0 (hWF.q z0 9 rfl) ?_
            have zz18 := hWF.r z0 9 rfl
            refine g_iload_n C dX11_learns_68 rfl 3 rfl ?_
            refine g_iload_n C dX11_learns_69 rfl 2 rfl ?_
            refine g_ixor C dX11_learns_70 ?_
            refine g_zald C dX11_learns_71 zz18 hw.1 ?_
            have hw := hw.2
            refine g_if_eq (tgt := 84) C dX11_learns_72 (by decide) (fun c19 => ?_) (fun c19 => ?_)
            · have hw := hw.1 c19
              refine g_iconst (v := (0 : Int32)) C dX11_learns_84 (by decide) ?_
              refine g_ior C dX11_learns_85 ?_
              refine g_iast C dX11_learns_86 zz17 hw.1 ?_
              have hw := hw.2
              refine g_iinc (v := (x3_9 + (1 : Int32))) (lv' := [(3, .int (x3_9 + (1 : Int32))), (0, .ref (ad h0)), (1, .int x1), (2, .int x2)]) C dX11_learns_87 (q := 3) rfl rfl (by decide) rfl ?_
              refine g_goto C dX11_learns_90 (tgt := 39) (by decide) ?_
              refine g_sub [1, 2, 3, 0] rfl ?_
              exact ih_u14 (sti I_9 (rq Q h0 0) (((21 : Int32) + ((8 : Int32) * x1)) + (x3_9 / (32 : Int32))).toNatClampNeg ((I_9 (rq Q h0 0) (((21 : Int32) + ((8 : Int32) * x1)) + (x3_9 / (32 : Int32))).toNatClampNeg) ||| (0 : Int32))) (x3_9 + (1 : Int32)) hw hWF
            · have hw := hw.2 c19
              refine g_iconst (v := (1 : Int32)) C dX11_learns_75 (by decide) ?_
              refine g_iload_n C dX11_learns_76 rfl 3 rfl ?_
              refine g_bipush (v := (32 : Int32)) C dX11_learns_77 (by decide) ?_
              refine g_irem C dX11_learns_79 (by decide) ?_
              refine g_ishl C dX11_learns_80 ?_
              refine g_goto C dX11_learns_81 (tgt := 85) (by decide) ?_
              refine g_ior C dX11_learns_85 ?_
              refine g_iast C dX11_learns_86 zz17 hw.1 ?_
              have hw := hw.2
              refine g_iinc (v := (x3_9 + (1 : Int32))) (lv' := [(3, .int (x3_9 + (1 : Int32))), (0, .ref (ad h0)), (1, .int x1), (2, .int x2)]) C dX11_learns_87 (q := 3) rfl rfl (by decide) rfl ?_
              refine g_goto C dX11_learns_90 (tgt := 39) (by decide) ?_
              refine g_sub [1, 2, 3, 0] rfl ?_
              exact ih_u14 (sti I_9 (rq Q h0 0) (((21 : Int32) + ((8 : Int32) * x1)) + (x3_9 / (32 : Int32))).toNatClampNeg ((I_9 (rq Q h0 0) (((21 : Int32) + ((8 : Int32) * x1)) + (x3_9 / (32 : Int32))).toNatClampNeg) ||| ((1 : Int32) <<< ((x3_9 - x3_9 / (32 : Int32) * (32 : Int32)) &&& 31)))) (x3_9 + (1 : Int32)) hw hWF
      obtain ⟨n_u14, hw⟩ := hw
      refine g_sub [1, 2, 3, 0] rfl ?_
      exact L39_u14 n_u14 I_6 (0 : Int32) hw hWF
    · have hw := hw.2 c8
      exact g_vret C dX11_learns_36 hr ⟨hw, rfl, rfl, hWF⟩
  have L2_u5 : ∀ (n2 : Nat) (I_1 : KI) (x3_1 : Int32), wp_X11_learns_L2 Q h0 x1 (fun I_6 => (vp_in x2 256 ∧ (((I_6 (rq Q h0 9) x2.toNatClampNeg) = 0 → (∃ q39, wp_X11_learns_L39 Q h0 x1 x2 post q39 I_6 (0 : Int32))) ∧ (¬ (I_6 (rq Q h0 9) x2.toNatClampNeg) = 0 → post I_6)))) n2 I_1 x3_1 → WF Z N T Q → GG p l e ({ frames := 2, cells := 0, slots := 0, locals := 43 }) s m [.ref (ad h0), .int x1, .int x2].toArray below meth c 4 A D D2 0 0 (MQ below (va_Qv (fun (u : KS) => post u.1 ∧ u.2.1 = J ∧ u.2.2 = Q ∧ WF Z N T u.2.2) (Bw D D2 ad N T) A) [.ref (ad h0), .int x1, .int x2].toArray s 0 0 A) ad N T I_1 J Q 2 [(0, .ref (ad h0)), (1, .int x1), (2, .int x2), (3, .int x3_1)] [] := by
    intro n2
    induction n2 with
    | zero => intro I_1 x3_1 hw; exact hw.elim
    | succ n2 ih_u5 =>
      intro I_1 x3_1 hw hWF
      unfold wp_X11_learns_L2 at hw
      refine g_iload_n C dX11_learns_2 rfl 3 rfl ?_
      refine g_sipush (v := (256 : Int32)) C dX11_learns_3 (by decide) ?_
      refine g_icmp_ge (tgt := 27) C dX11_learns_6 (by decide) (fun c21 => ?_) (fun c21 => ?_)
      · have hw := hw.1 c21
        refine g_sub [0, 1, 2] rfl ?_
        exact K27_u5 I_1 hw hWF
      · have hw := hw.2 c21
        refine g_aload_n C dX11_learns_9 rfl 0 rfl ?_
        refine g_getQ C dX11_learns_10 ft_390 z0 (hWF.q z0 9 rfl) ?_
        have zz22 := hWF.r z0 9 rfl
        refine g_iload_n C dX11_learns_13 rfl 3 rfl ?_
        refine g_aload_n C dX11_learns_14 rfl 0 rfl ?_
        refine g_iload_n C dX11_learns_15 rfl 1 rfl ?_
        refine g_iload_n C dX11_learns_16 rfl 3 rfl ?_
        refine g_callVi (As := [.int x1, .int x3_1]) C dX11_learns_17 ft_387 z0 ft_391 ft_392 (met_X11_isKnown l hWF z0 hw) ⟨rfl, rfl, Nat.le_of_ble_eq_true rfl, Nat.le_of_ble_eq_true rfl⟩ ⟨Nat.zero_le _, Nat.zero_le _⟩ rfl rfl (Nat.le_of_ble_eq_true rfl) (fun r23 I23 J23 Q23 hp => ?_)
        obtain ⟨hw, eI, eJ, eQ, hWF⟩ := hp
        have eI : I_1 = I23 := Eq.symm eI
        subst eI
        have eJ : J = J23 := Eq.symm eJ
        subst eJ
        have eQ : Q = Q23 := Eq.symm eQ
        subst eQ
        try dsimp only at hw hWF
        refine g_zast C dX11_learns_20 zz22 hw.1 ?_
        have hw := hw.2
        refine g_iinc (v := (x3_1 + (1 : Int32))) (lv' := [(3, .int (x3_1 + (1 : Int32))), (0, .ref (ad h0)), (1, .int x1), (2, .int x2)]) C dX11_learns_21 (q := 3) rfl rfl (by decide) rfl ?_
        refine g_goto C dX11_learns_24 (tgt := 2) (by decide) ?_
        refine g_sub [1, 2, 3, 0] rfl ?_
        exact ih_u5 (sti I_1 (rq Q h0 9) x3_1.toNatClampNeg (vp_nar .boolean r23)) (x3_1 + (1 : Int32)) hw hWF
  obtain ⟨n_u5, hw⟩ := hw
  refine g_sub [1, 2, 3, 0] rfl ?_
  exact L2_u5 n_u5 I (0 : Int32) hw hWF
def wp_X11_heads_L19 (If_4 : KI) (Qf_4 : KQ) (f0_4 : Nat) (f1_4 : Int32) (f3_4 : Int32) (k53 : Int32 → Prop) : Nat → Int32 → Int32 → Prop
  | 0, _, _ => False
  | n19 + 1, x2_4, x4_4 => ((((2 : Int32) <<< (f3_4 &&& 31)) ≤ x4_4 → k53 x2_4) ∧ (¬ ((2 : Int32) <<< (f3_4 &&& 31)) ≤ x4_4 → wp_X11_isKnown If_4 Qf_4 f0_4 f1_4 x4_4 (fun r6 => ((r6 = 0 → wp_X11_heads_L19 If_4 Qf_4 f0_4 f1_4 f3_4 k53 n19 (x2_4 ||| (0 : Int32)) (x4_4 + (1 : Int32))) ∧ (¬ r6 = 0 → wp_X11_heads_L19 If_4 Qf_4 f0_4 f1_4 f3_4 k53 n19 (x2_4 ||| ((1 : Int32) <<< (f3_4 &&& 31))) (x4_4 + (1 : Int32)))))))
def wp_X11_heads_L4 (If_1 : KI) (Qf_1 : KQ) (f0_1 : Nat) (f1_1 : Int32) (post : Int32 → Prop) : Nat → Int32 → Int32 → Prop
  | 0, _, _ => False
  | n4 + 1, x2_1, x3_1 => (((If_1 (rq Qf_1 f0_1 0) (1 : Int32).toNatClampNeg) ≤ x3_1 → post x2_1) ∧ (¬ (If_1 (rq Qf_1 f0_1 0) (1 : Int32).toNatClampNeg) ≤ x3_1 → (∃ q19, wp_X11_heads_L19 If_1 Qf_1 f0_1 f1_1 x3_1 (fun x2_9 => wp_X11_heads_L4 If_1 Qf_1 f0_1 f1_1 post n4 x2_9 (x3_1 + (1 : Int32))) q19 x2_1 ((1 : Int32) <<< (x3_1 &&& 31)))))
def wp_X11_heads (I : KI) (Q : KQ) (h0 : Nat) (x1 : Int32) (post : Int32 → Prop) : Prop := (∃ q4, wp_X11_heads_L4 I Q h0 x1 post q4 (0 : Int32) (0 : Int32))
set_option maxHeartbeats 4000000 in
set_option maxRecDepth 100000 in
theorem met_X11_heads {Z : Nat → Prop} {A : Nat → Prop} {D : va_G} {D2 : Nat → ClassId} {ad : Nat → Nat} {N : Nat} {T : Nat → Nat × Nat} (l : Launch) {I : KI} {J : KJ} {Q : KQ} {h0 : Nat} {x1 : Int32} {post : Int32 → Prop} (hWF : WF Z N T Q) (z0 : OKr Z N T h0 (11, 0)) (hw : wp_X11_heads I Q h0 x1 post) : Met l yX11_heads (.code yX11_heads cX11_heads 5 (some .int) :: BIG) ({ frames := 2, cells := 0, slots := 0, locals := 43 }) (Pr D D2 A ad N T I J Q [.ref (ad h0), .int x1]) (va_Qi (fun (r : Int32) (u : KS) => post r ∧ u.1 = I ∧ u.2.1 = J ∧ u.2.2 = Q ∧ WF Z N T u.2.2) (Bw D D2 ad N T) A) 0 0 A := by
  refine Met_GG (lv0 := [(0, .ref (ad h0)), (1, .int x1)]) (by decide +kernel) [.ref (ad h0), .int x1] (Nat.le_of_ble_eq_true rfl) rfl ?_
  intro p e s m below meth c C hr
  have C : CX p s m [.ref (ad h0), .int x1].toArray meth c cX11_heads 5 RX11 A D D2 := C
  unfold wp_X11_heads at hw
  refine g_iconst (v := (0 : Int32)) C dX11_heads_0 (by decide) ?_
  refine g_istore_n (lv' := [(2, .int (0 : Int32)), (0, .ref (ad h0)), (1, .int x1)]) C dX11_heads_1 rfl (by decide) rfl ?_
  refine g_iconst (v := (0 : Int32)) C dX11_heads_2 (by decide) ?_
  refine g_istore_n (lv' := [(3, .int (0 : Int32)), (2, .int (0 : Int32)), (0, .ref (ad h0)), (1, .int x1)]) C dX11_heads_3 rfl (by decide) rfl ?_
  have L4_u14 : ∀ (n4 : Nat) (x2_1 : Int32) (x3_1 : Int32), wp_X11_heads_L4 I Q h0 x1 post n4 x2_1 x3_1 → WF Z N T Q → GG p l e ({ frames := 2, cells := 0, slots := 0, locals := 43 }) s m [.ref (ad h0), .int x1].toArray below meth c 5 A D D2 0 0 (MQ below (va_Qi (fun (r : Int32) (u : KS) => post r ∧ u.1 = I ∧ u.2.1 = J ∧ u.2.2 = Q ∧ WF Z N T u.2.2) (Bw D D2 ad N T) A) [.ref (ad h0), .int x1].toArray s 0 0 A) ad N T I J Q 4 [(0, .ref (ad h0)), (1, .int x1), (2, .int x2_1), (3, .int x3_1)] [] := by
    intro n4
    induction n4 with
    | zero => intro x2_1 x3_1 hw; exact hw.elim
    | succ n4 ih_u14 =>
      intro x2_1 x3_1 hw hWF
      unfold wp_X11_heads_L4 at hw
      refine g_iload_n C dX11_heads_4 rfl 3 rfl ?_
      refine g_aload_n C dX11_heads_5 rfl 0 rfl ?_
      refine g_getQ C dX11_heads_6 ft_363 z0 (hWF.q z0 0 rfl) ?_
      have zz16 := hWF.r z0 0 rfl
      refine g_iconst (v := (1 : Int32)) C dX11_heads_9 (by decide) ?_
      refine g_iald C dX11_heads_10 zz16 (vp_lit (by decide +kernel)) ?_
      refine g_icmp_ge (tgt := 59) C dX11_heads_11 (by decide) (fun c17 => ?_) (fun c17 => ?_)
      · have hw := hw.1 c17
        refine g_iload_n C dX11_heads_59 rfl 2 rfl ?_
        exact g_iret C dX11_heads_60 hr ⟨hw, rfl, rfl, rfl, hWF⟩
      · have hw := hw.2 c17
        refine g_iconst (v := (1 : Int32)) C dX11_heads_14 (by decide) ?_
        refine g_iload_n C dX11_heads_15 rfl 3 rfl ?_
        refine g_ishl C dX11_heads_16 ?_
        refine g_istore (lv' := [(4, .int ((1 : Int32) <<< (x3_1 &&& 31))), (0, .ref (ad h0)), (1, .int x1), (2, .int x2_1), (3, .int x3_1)]) C dX11_heads_17 (by decide) rfl ?_
        have K53_u19 : ∀ (x2_20 : Int32), (wp_X11_heads_L4 I Q h0 x1 post n4 x2_20 (x3_1 + (1 : Int32))) → WF Z N T Q → GG p l e ({ frames := 2, cells := 0, slots := 0, locals := 43 }) s m [.ref (ad h0), .int x1].toArray below meth c 5 A D D2 0 0 (MQ below (va_Qi (fun (r : Int32) (u : KS) => post r ∧ u.1 = I ∧ u.2.1 = J ∧ u.2.2 = Q ∧ WF Z N T u.2.2) (Bw D D2 ad N T) A) [.ref (ad h0), .int x1].toArray s 0 0 A) ad N T I J Q 53 [(0, .ref (ad h0)), (1, .int x1), (2, .int x2_20), (3, .int x3_1)] [] := by
          intro x2_20 hw hWF
          refine g_iinc (v := (x3_1 + (1 : Int32))) (lv' := [(3, .int (x3_1 + (1 : Int32))), (0, .ref (ad h0)), (1, .int x1), (2, .int x2_20)]) C dX11_heads_53 (q := 3) rfl rfl (by decide) rfl ?_
          refine g_goto C dX11_heads_56 (tgt := 4) (by decide) ?_
          refine g_sub [1, 2, 3, 0] rfl ?_
          exact ih_u14 x2_20 (x3_1 + (1 : Int32)) hw hWF
        have L19_u19 : ∀ (n19 : Nat) (x2_4 : Int32) (x4_4 : Int32), wp_X11_heads_L19 I Q h0 x1 x3_1 (fun x2_20 => wp_X11_heads_L4 I Q h0 x1 post n4 x2_20 (x3_1 + (1 : Int32))) n19 x2_4 x4_4 → WF Z N T Q → GG p l e ({ frames := 2, cells := 0, slots := 0, locals := 43 }) s m [.ref (ad h0), .int x1].toArray below meth c 5 A D D2 0 0 (MQ below (va_Qi (fun (r : Int32) (u : KS) => post r ∧ u.1 = I ∧ u.2.1 = J ∧ u.2.2 = Q ∧ WF Z N T u.2.2) (Bw D D2 ad N T) A) [.ref (ad h0), .int x1].toArray s 0 0 A) ad N T I J Q 19 [(0, .ref (ad h0)), (1, .int x1), (2, .int x2_4), (3, .int x3_1), (4, .int x4_4)] [] := by
          intro n19
          induction n19 with
          | zero => intro x2_4 x4_4 hw; exact hw.elim
          | succ n19 ih_u19 =>
            intro x2_4 x4_4 hw hWF
            unfold wp_X11_heads_L19 at hw
            refine g_iload C dX11_heads_19 4 rfl ?_
            refine g_iconst (v := (2 : Int32)) C dX11_heads_21 (by decide) ?_
            refine g_iload_n C dX11_heads_22 rfl 3 rfl ?_
            refine g_ishl C dX11_heads_23 ?_
            refine g_icmp_ge (tgt := 53) C dX11_heads_24 (by decide) (fun c22 => ?_) (fun c22 => ?_)
            · have hw := hw.1 c22
              refine g_sub [0, 1, 2, 3] rfl ?_
              exact K53_u19 x2_4 hw hWF
            · have hw := hw.2 c22
              refine g_iload_n C dX11_heads_27 rfl 2 rfl ?_
              refine g_aload_n C dX11_heads_28 rfl 0 rfl ?_
              refine g_iload_n C dX11_heads_29 rfl 1 rfl ?_
              refine g_iload C dX11_heads_30 4 rfl ?_
              refine g_callVi (As := [.int x1, .int x4_4]) C dX11_heads_32 ft_387 z0 ft_391 ft_392 (met_X11_isKnown l hWF z0 hw) ⟨rfl, rfl, Nat.le_of_ble_eq_true rfl, Nat.le_of_ble_eq_true rfl⟩ ⟨Nat.zero_le _, Nat.zero_le _⟩ rfl rfl (Nat.le_of_ble_eq_true rfl) (fun r23 I23 J23 Q23 hp => ?_)
              obtain ⟨hw, eI, eJ, eQ, hWF⟩ := hp
              have eI : I = I23 := Eq.symm eI
              subst eI
              have eJ : J = J23 := Eq.symm eJ
              subst eJ
              have eQ : Q = Q23 := Eq.symm eQ
              subst eQ
              try dsimp only at hw hWF
              refine g_if_eq (tgt := 44) C dX11_heads_35 (by decide) (fun c24 => ?_) (fun c24 => ?_)
              · have hw := hw.1 c24
                refine g_iconst (v := (0 : Int32)) C dX11_heads_44 (by decide) ?_
                refine g_ior C dX11_heads_45 ?_
                refine g_istore_n (lv' := [(2, .int (x2_4 ||| (0 : Int32))), (0, .ref (ad h0)), (1, .int x1), (3, .int x3_1), (4, .int x4_4)]) C dX11_heads_46 rfl (by decide) rfl ?_
                refine g_iinc (v := (x4_4 + (1 : Int32))) (lv' := [(4, .int (x4_4 + (1 : Int32))), (2, .int (x2_4 ||| (0 : Int32))), (0, .ref (ad h0)), (1, .int x1), (3, .int x3_1)]) C dX11_heads_47 (q := 4) rfl rfl (by decide) rfl ?_
                refine g_goto C dX11_heads_50 (tgt := 19) (by decide) ?_
                refine g_sub [2, 3, 1, 4, 0] rfl ?_
                exact ih_u19 (x2_4 ||| (0 : Int32)) (x4_4 + (1 : Int32)) hw hWF
              · have hw := hw.2 c24
                refine g_iconst (v := (1 : Int32)) C dX11_heads_38 (by decide) ?_
                refine g_iload_n C dX11_heads_39 rfl 3 rfl ?_
                refine g_ishl C dX11_heads_40 ?_
                refine g_goto C dX11_heads_41 (tgt := 45) (by decide) ?_
                refine g_ior C dX11_heads_45 ?_
                refine g_istore_n (lv' := [(2, .int (x2_4 ||| ((1 : Int32) <<< (x3_1 &&& 31)))), (0, .ref (ad h0)), (1, .int x1), (3, .int x3_1), (4, .int x4_4)]) C dX11_heads_46 rfl (by decide) rfl ?_
                refine g_iinc (v := (x4_4 + (1 : Int32))) (lv' := [(4, .int (x4_4 + (1 : Int32))), (2, .int (x2_4 ||| ((1 : Int32) <<< (x3_1 &&& 31)))), (0, .ref (ad h0)), (1, .int x1), (3, .int x3_1)]) C dX11_heads_47 (q := 4) rfl rfl (by decide) rfl ?_
                refine g_goto C dX11_heads_50 (tgt := 19) (by decide) ?_
                refine g_sub [2, 3, 1, 4, 0] rfl ?_
                exact ih_u19 (x2_4 ||| ((1 : Int32) <<< (x3_1 &&& 31))) (x4_4 + (1 : Int32)) hw hWF
        obtain ⟨n_u19, hw⟩ := hw
        refine g_sub [1, 2, 3, 4, 0] rfl ?_
        exact L19_u19 n_u19 x2_1 ((1 : Int32) <<< (x3_1 &&& 31)) hw hWF
  obtain ⟨n_u14, hw⟩ := hw
  refine g_sub [2, 3, 1, 0] rfl ?_
  exact L4_u14 n_u14 (0 : Int32) (0 : Int32) hw hWF
def wp_X11_sumWith_L5 (If_1 : KI) (Qf_1 : KQ) (f0_1 : Nat) (f1_1 : Int32) (f3_1 : Int32) (post : Int32 → Prop) : Nat → Int32 → Prop
  | 0, _ => False
  | n5 + 1, x4_1 => wp_X11_isKnown If_1 Qf_1 f0_1 f1_1 x4_1 (fun r2 => ((r2 = 0 → wp_X11_sumWith_L5 If_1 Qf_1 f0_1 f1_1 f3_1 post n5 (x4_1 + (1 : Int32))) ∧ (¬ r2 = 0 → (((x4_1 &&& f3_1) = 0 → post x4_1) ∧ (¬ (x4_1 &&& f3_1) = 0 → wp_X11_sumWith_L5 If_1 Qf_1 f0_1 f1_1 f3_1 post n5 (x4_1 + (1 : Int32)))))))
def wp_X11_sumWith (I : KI) (Q : KQ) (h0 : Nat) (x1 : Int32) (x2 : Int32) (x3 : Int32) (post : Int32 → Prop) : Prop := (∃ q5, wp_X11_sumWith_L5 I Q h0 x1 x3 post q5 ((1 : Int32) <<< (x2 &&& 31)))
set_option maxHeartbeats 4000000 in
set_option maxRecDepth 100000 in
theorem met_X11_sumWith {Z : Nat → Prop} {A : Nat → Prop} {D : va_G} {D2 : Nat → ClassId} {ad : Nat → Nat} {N : Nat} {T : Nat → Nat × Nat} (l : Launch) {I : KI} {J : KJ} {Q : KQ} {h0 : Nat} {x1 : Int32} {x2 : Int32} {x3 : Int32} {post : Int32 → Prop} (hWF : WF Z N T Q) (z0 : OKr Z N T h0 (11, 0)) (hw : wp_X11_sumWith I Q h0 x1 x2 x3 post) : Met l yX11_sumWith (.code yX11_sumWith cX11_sumWith 5 (some .int) :: BIG) ({ frames := 2, cells := 0, slots := 0, locals := 43 }) (Pr D D2 A ad N T I J Q [.ref (ad h0), .int x1, .int x2, .int x3]) (va_Qi (fun (r : Int32) (u : KS) => post r ∧ u.1 = I ∧ u.2.1 = J ∧ u.2.2 = Q ∧ WF Z N T u.2.2) (Bw D D2 ad N T) A) 0 0 A := by
  refine Met_GG (lv0 := [(0, .ref (ad h0)), (1, .int x1), (2, .int x2), (3, .int x3)]) (by decide +kernel) [.ref (ad h0), .int x1, .int x2, .int x3] (Nat.le_of_ble_eq_true rfl) rfl ?_
  intro p e s m below meth c C hr
  have C : CX p s m [.ref (ad h0), .int x1, .int x2, .int x3].toArray meth c cX11_sumWith 5 RX11 A D D2 := C
  unfold wp_X11_sumWith at hw
  refine g_iconst (v := (1 : Int32)) C dX11_sumWith_0 (by decide) ?_
  refine g_iload_n C dX11_sumWith_1 rfl 2 rfl ?_
  refine g_ishl C dX11_sumWith_2 ?_
  refine g_istore (lv' := [(4, .int ((1 : Int32) <<< (x2 &&& 31))), (0, .ref (ad h0)), (1, .int x1), (2, .int x2), (3, .int x3)]) C dX11_sumWith_3 (by decide) rfl ?_
  have L5_u5 : ∀ (n5 : Nat) (x4_1 : Int32), wp_X11_sumWith_L5 I Q h0 x1 x3 post n5 x4_1 → WF Z N T Q → GG p l e ({ frames := 2, cells := 0, slots := 0, locals := 43 }) s m [.ref (ad h0), .int x1, .int x2, .int x3].toArray below meth c 5 A D D2 0 0 (MQ below (va_Qi (fun (r : Int32) (u : KS) => post r ∧ u.1 = I ∧ u.2.1 = J ∧ u.2.2 = Q ∧ WF Z N T u.2.2) (Bw D D2 ad N T) A) [.ref (ad h0), .int x1, .int x2, .int x3].toArray s 0 0 A) ad N T I J Q 5 [(0, .ref (ad h0)), (1, .int x1), (3, .int x3), (4, .int x4_1)] [] := by
    intro n5
    induction n5 with
    | zero => intro x4_1 hw; exact hw.elim
    | succ n5 ih_u5 =>
      intro x4_1 hw hWF
      unfold wp_X11_sumWith_L5 at hw
      refine g_aload_n C dX11_sumWith_5 rfl 0 rfl ?_
      refine g_iload_n C dX11_sumWith_6 rfl 1 rfl ?_
      refine g_iload C dX11_sumWith_7 3 rfl ?_
      refine g_callVi (As := [.int x1, .int x4_1]) C dX11_sumWith_9 ft_387 z0 ft_391 ft_392 (met_X11_isKnown l hWF z0 hw) ⟨rfl, rfl, Nat.le_of_ble_eq_true rfl, Nat.le_of_ble_eq_true rfl⟩ ⟨Nat.zero_le _, Nat.zero_le _⟩ rfl rfl (Nat.le_of_ble_eq_true rfl) (fun r7 I7 J7 Q7 hp => ?_)
      obtain ⟨hw, eI, eJ, eQ, hWF⟩ := hp
      have eI : I = I7 := Eq.symm eI
      subst eI
      have eJ : J = J7 := Eq.symm eJ
      subst eJ
      have eQ : Q = Q7 := Eq.symm eQ
      subst eQ
      try dsimp only at hw hWF
      refine g_if_eq (tgt := 22) C dX11_sumWith_12 (by decide) (fun c8 => ?_) (fun c8 => ?_)
      · have hw := hw.1 c8
        refine g_iinc (v := (x4_1 + (1 : Int32))) (lv' := [(4, .int (x4_1 + (1 : Int32))), (0, .ref (ad h0)), (1, .int x1), (3, .int x3)]) C dX11_sumWith_22 (q := 3) rfl rfl (by decide) rfl ?_
        refine g_goto C dX11_sumWith_25 (tgt := 5) (by decide) ?_
        refine g_sub [1, 2, 3, 0] rfl ?_
        exact ih_u5 (x4_1 + (1 : Int32)) hw hWF
      · have hw := hw.2 c8
        refine g_iload C dX11_sumWith_15 3 rfl ?_
        refine g_iload_n C dX11_sumWith_17 rfl 2 rfl ?_
        refine g_iand C dX11_sumWith_18 ?_
        refine g_if_eq (tgt := 28) C dX11_sumWith_19 (by decide) (fun c9 => ?_) (fun c9 => ?_)
        · have hw := hw.1 c9
          refine g_iload C dX11_sumWith_28 3 rfl ?_
          exact g_iret C dX11_sumWith_30 hr ⟨hw, rfl, rfl, rfl, hWF⟩
        · have hw := hw.2 c9
          refine g_iinc (v := (x4_1 + (1 : Int32))) (lv' := [(4, .int (x4_1 + (1 : Int32))), (0, .ref (ad h0)), (1, .int x1), (3, .int x3)]) C dX11_sumWith_22 (q := 3) rfl rfl (by decide) rfl ?_
          refine g_goto C dX11_sumWith_25 (tgt := 5) (by decide) ?_
          refine g_sub [1, 2, 3, 0] rfl ?_
          exact ih_u5 (x4_1 + (1 : Int32)) hw hWF
  obtain ⟨n_u5, hw⟩ := hw
  refine g_sub [1, 2, 4, 0] rfl ?_
  exact L5_u5 n_u5 ((1 : Int32) <<< (x2 &&& 31)) hw hWF
def wp_X11_sumOf_L19 (f3_3 : Int32) (post : Int32 → Prop) (k38 : Int32 → Prop) : Nat → Int32 → Int32 → Prop
  | 0, _, _ => False
  | n19 + 1, x4_3, x5_3 => ((x5_3 < 0 → post (0 : Int32)) ∧ (¬ x5_3 < 0 → wp_X11_has f3_3 x5_3 (fun r5 => ((r5 = 0 → wp_X11_sumOf_L19 f3_3 post k38 n19 x4_3 (x5_3 + (-1 : Int32))) ∧ (¬ r5 = 0 → ((¬ x4_3 = 0 → wp_X11_sumOf_L19 f3_3 post k38 n19 (x4_3 + (-1 : Int32)) (x5_3 + (-1 : Int32))) ∧ (x4_3 = 0 → k38 x5_3)))))))
def wp_X11_sumOf (I : KI) (Q : KQ) (h0 : Nat) (x1 : Int32) (x2 : Int32) (post : Int32 → Prop) : Prop := wp_X11_heads I Q h0 x1 (fun r1 => (∃ q19, wp_X11_sumOf_L19 r1 post (fun x5_9 => wp_X11_sumWith I Q h0 x1 x5_9 (r1 &&& (((1 : Int32) <<< (x5_9 &&& 31)) ^^^ (-1 : Int32))) (fun r10 => post r10)) q19 x2 ((I (rq Q h0 0) (1 : Int32).toNatClampNeg) - (1 : Int32))))
set_option maxHeartbeats 4000000 in
set_option maxRecDepth 100000 in
theorem met_X11_sumOf {Z : Nat → Prop} {A : Nat → Prop} {D : va_G} {D2 : Nat → ClassId} {ad : Nat → Nat} {N : Nat} {T : Nat → Nat × Nat} (l : Launch) {I : KI} {J : KJ} {Q : KQ} {h0 : Nat} {x1 : Int32} {x2 : Int32} {post : Int32 → Prop} (hWF : WF Z N T Q) (z0 : OKr Z N T h0 (11, 0)) (hw : wp_X11_sumOf I Q h0 x1 x2 post) : Met l yX11_sumOf (.code yX11_sumOf cX11_sumOf 6 (some .int) :: BIG) ({ frames := 3, cells := 0, slots := 0, locals := 67 }) (Pr D D2 A ad N T I J Q [.ref (ad h0), .int x1, .int x2]) (va_Qi (fun (r : Int32) (u : KS) => post r ∧ u.1 = I ∧ u.2.1 = J ∧ u.2.2 = Q ∧ WF Z N T u.2.2) (Bw D D2 ad N T) A) 0 0 A := by
  refine Met_GG (lv0 := [(0, .ref (ad h0)), (1, .int x1), (2, .int x2)]) (by decide +kernel) [.ref (ad h0), .int x1, .int x2] (Nat.le_of_ble_eq_true rfl) rfl ?_
  intro p e s m below meth c C hr
  have C : CX p s m [.ref (ad h0), .int x1, .int x2].toArray meth c cX11_sumOf 6 RX11 A D D2 := C
  unfold wp_X11_sumOf at hw
  refine g_aload_n C dX11_sumOf_0 rfl 0 rfl ?_
  refine g_iload_n C dX11_sumOf_1 rfl 1 rfl ?_
  refine g_callVi (As := [.int x1]) C dX11_sumOf_2 ft_387 z0 ft_395 ft_396 (met_X11_heads l hWF z0 hw) ⟨rfl, rfl, Nat.le_of_ble_eq_true rfl, Nat.le_of_ble_eq_true rfl⟩ ⟨Nat.zero_le _, Nat.zero_le _⟩ rfl rfl (Nat.le_of_ble_eq_true rfl) (fun r1 I1 J1 Q1 hp => ?_)
  obtain ⟨hw, eI, eJ, eQ, hWF⟩ := hp
  have eI : I = I1 := Eq.symm eI
  subst eI
  have eJ : J = J1 := Eq.symm eJ
  subst eJ
  have eQ : Q = Q1 := Eq.symm eQ
  subst eQ
  try dsimp only at hw hWF
  refine g_istore_n (lv' := [(3, .int r1), (0, .ref (ad h0)), (1, .int x1), (2, .int x2)]) C dX11_sumOf_5 rfl (by decide) rfl ?_
  refine g_iload_n C dX11_sumOf_6 rfl 3 rfl ?_
  refine g_istore (lv' := [(4, .int x2), (3, .int r1), (0, .ref (ad h0)), (1, .int x1), (2, .int x2)]) C dX11_sumOf_7 (by decide) rfl ?_
  refine g_aload_n C dX11_sumOf_9 rfl 2 rfl ?_
  refine g_getQ C dX11_sumOf_10 ft_363 z0 (hWF.q z0 0 rfl) ?_
  have zz2 := hWF.r z0 0 rfl
  refine g_iconst (v := (1 : Int32)) C dX11_sumOf_13 (by decide) ?_
  refine g_iald C dX11_sumOf_14 zz2 (vp_lit (by decide +kernel)) ?_
  refine g_iconst (v := (1 : Int32)) C dX11_sumOf_15 (by decide) ?_
  refine g_isub C dX11_sumOf_16 ?_
  refine g_istore (lv' := [(5, .int ((I (rq Q h0 0) (1 : Int32).toNatClampNeg) - (1 : Int32))), (4, .int x2), (3, .int r1), (0, .ref (ad h0)), (1, .int x1), (2, .int x2)]) C dX11_sumOf_17 (by decide) rfl ?_
  have K38_u8 : ∀ (x5_9 : Int32), (wp_X11_sumWith I Q h0 x1 x5_9 (r1 &&& (((1 : Int32) <<< (x5_9 &&& 31)) ^^^ (-1 : Int32))) (fun r10 => post r10)) → WF Z N T Q → GG p l e ({ frames := 3, cells := 0, slots := 0, locals := 67 }) s m [.ref (ad h0), .int x1, .int x2].toArray below meth c 6 A D D2 0 0 (MQ below (va_Qi (fun (r : Int32) (u : KS) => post r ∧ u.1 = I ∧ u.2.1 = J ∧ u.2.2 = Q ∧ WF Z N T u.2.2) (Bw D D2 ad N T) A) [.ref (ad h0), .int x1, .int x2].toArray s 0 0 A) ad N T I J Q 38 [(0, .ref (ad h0)), (1, .int x1), (3, .int r1), (5, .int x5_9)] [] := by
    intro x5_9 hw hWF
    refine g_aload_n C dX11_sumOf_38 rfl 0 rfl ?_
    refine g_iload_n C dX11_sumOf_39 rfl 1 rfl ?_
    refine g_iload C dX11_sumOf_40 3 rfl ?_
    refine g_iload_n C dX11_sumOf_42 rfl 2 rfl ?_
    refine g_iconst (v := (1 : Int32)) C dX11_sumOf_43 (by decide) ?_
    refine g_iload C dX11_sumOf_44 3 rfl ?_
    refine g_ishl C dX11_sumOf_46 ?_
    refine g_iconst (v := (-1 : Int32)) C dX11_sumOf_47 (by decide) ?_
    refine g_ixor C dX11_sumOf_48 ?_
    refine g_iand C dX11_sumOf_49 ?_
    refine g_callVi (As := [.int x1, .int x5_9, .int (r1 &&& (((1 : Int32) <<< (x5_9 &&& 31)) ^^^ (-1 : Int32)))]) C dX11_sumOf_50 ft_387 z0 ft_393 ft_394 (met_X11_sumWith l hWF z0 hw) ⟨rfl, rfl, Nat.le_of_ble_eq_true rfl, Nat.le_of_ble_eq_true rfl⟩ ⟨Nat.zero_le _, Nat.zero_le _⟩ rfl rfl (Nat.le_of_ble_eq_true rfl) (fun r10 I10 J10 Q10 hp => ?_)
    obtain ⟨hw, eI, eJ, eQ, hWF⟩ := hp
    have eI : I = I10 := Eq.symm eI
    subst eI
    have eJ : J = J10 := Eq.symm eJ
    subst eJ
    have eQ : Q = Q10 := Eq.symm eQ
    subst eQ
    try dsimp only at hw hWF
    exact g_iret C dX11_sumOf_53 hr ⟨hw, rfl, rfl, rfl, hWF⟩
  have L19_u8 : ∀ (n19 : Nat) (x4_3 : Int32) (x5_3 : Int32), wp_X11_sumOf_L19 r1 post (fun x5_9 => wp_X11_sumWith I Q h0 x1 x5_9 (r1 &&& (((1 : Int32) <<< (x5_9 &&& 31)) ^^^ (-1 : Int32))) (fun r10 => post r10)) n19 x4_3 x5_3 → WF Z N T Q → GG p l e ({ frames := 3, cells := 0, slots := 0, locals := 67 }) s m [.ref (ad h0), .int x1, .int x2].toArray below meth c 6 A D D2 0 0 (MQ below (va_Qi (fun (r : Int32) (u : KS) => post r ∧ u.1 = I ∧ u.2.1 = J ∧ u.2.2 = Q ∧ WF Z N T u.2.2) (Bw D D2 ad N T) A) [.ref (ad h0), .int x1, .int x2].toArray s 0 0 A) ad N T I J Q 19 [(0, .ref (ad h0)), (1, .int x1), (3, .int r1), (4, .int x4_3), (5, .int x5_3)] [] := by
    intro n19
    induction n19 with
    | zero => intro x4_3 x5_3 hw; exact hw.elim
    | succ n19 ih_u8 =>
      intro x4_3 x5_3 hw hWF
      unfold wp_X11_sumOf_L19 at hw
      refine g_iload C dX11_sumOf_19 4 rfl ?_
      refine g_if_lt (tgt := 63) C dX11_sumOf_21 (by decide) (fun c12 => ?_) (fun c12 => ?_)
      · have hw := hw.1 c12
        refine g_iconst (v := (0 : Int32)) C dX11_sumOf_63 (by decide) ?_
        exact g_iret C dX11_sumOf_64 hr ⟨hw, rfl, rfl, rfl, hWF⟩
      · have hw := hw.2 c12
        refine g_iload_n C dX11_sumOf_24 rfl 2 rfl ?_
        refine g_iload C dX11_sumOf_25 4 rfl ?_
        refine g_callSi (As := [.int r1, .int x5_3]) C dX11_sumOf_27 ft_381 ft_382 (met_X11_has l hWF  hw) ⟨rfl, rfl, Nat.le_of_ble_eq_true rfl, Nat.le_of_ble_eq_true rfl⟩ ⟨Nat.zero_le _, Nat.zero_le _⟩ rfl rfl (Nat.le_of_ble_eq_true rfl) (fun r13 I13 J13 Q13 hp => ?_)
        obtain ⟨hw, eI, eJ, eQ, hWF⟩ := hp
        have eI : I = I13 := Eq.symm eI
        subst eI
        have eJ : J = J13 := Eq.symm eJ
        subst eJ
        have eQ : Q = Q13 := Eq.symm eQ
        subst eQ
        try dsimp only at hw hWF
        refine g_if_eq (tgt := 57) C dX11_sumOf_30 (by decide) (fun c14 => ?_) (fun c14 => ?_)
        · have hw := hw.1 c14
          refine g_iinc (v := (x5_3 + (-1 : Int32))) (lv' := [(5, .int (x5_3 + (-1 : Int32))), (0, .ref (ad h0)), (1, .int x1), (3, .int r1), (4, .int x4_3)]) C dX11_sumOf_57 (q := 4) rfl rfl (by decide) rfl ?_
          refine g_goto C dX11_sumOf_60 (tgt := 19) (by decide) ?_
          refine g_sub [1, 2, 3, 4, 0] rfl ?_
          exact ih_u8 x4_3 (x5_3 + (-1 : Int32)) hw hWF
        · have hw := hw.2 c14
          refine g_iload C dX11_sumOf_33 3 rfl ?_
          refine g_if_ne (tgt := 54) C dX11_sumOf_35 (by decide) (fun c15 => ?_) (fun c15 => ?_)
          · have hw := hw.1 c15
            refine g_iinc (v := (x4_3 + (-1 : Int32))) (lv' := [(4, .int (x4_3 + (-1 : Int32))), (0, .ref (ad h0)), (1, .int x1), (3, .int r1), (5, .int x5_3)]) C dX11_sumOf_54 (q := 3) rfl rfl (by decide) rfl ?_
            refine g_iinc (v := (x5_3 + (-1 : Int32))) (lv' := [(5, .int (x5_3 + (-1 : Int32))), (4, .int (x4_3 + (-1 : Int32))), (0, .ref (ad h0)), (1, .int x1), (3, .int r1)]) C dX11_sumOf_57 (q := 4) rfl rfl (by decide) rfl ?_
            refine g_goto C dX11_sumOf_60 (tgt := 19) (by decide) ?_
            refine g_sub [2, 3, 4, 1, 0] rfl ?_
            exact ih_u8 (x4_3 + (-1 : Int32)) (x5_3 + (-1 : Int32)) hw hWF
          · have hw := hw.2 c15
            refine g_sub [0, 1, 2, 4] rfl ?_
            exact K38_u8 x5_3 hw hWF
  obtain ⟨n_u8, hw⟩ := hw
  refine g_sub [3, 4, 2, 1, 0] rfl ?_
  exact L19_u8 n_u8 x2 ((I (rq Q h0 0) (1 : Int32).toNatClampNeg) - (1 : Int32)) hw hWF
def wp_X11_isSet  (x0 : Int32) (x1 : Int32) (post : Int32 → Prop) : Prop := wp_X11_in (x0.toInt64) (0 : Int64) ((((1 : Int32) <<< (x1 &&& 31)) - (1 : Int32)).toInt64) (fun r1 => ((r1 = 0 ∨ r1 = 1) ∧ post r1))
set_option maxHeartbeats 4000000 in
set_option maxRecDepth 100000 in
theorem met_X11_isSet {Z : Nat → Prop} {A : Nat → Prop} {D : va_G} {D2 : Nat → ClassId} {ad : Nat → Nat} {N : Nat} {T : Nat → Nat × Nat} (l : Launch) {I : KI} {J : KJ} {Q : KQ} {x0 : Int32} {x1 : Int32} {post : Int32 → Prop} (hWF : WF Z N T Q)  (hw : wp_X11_isSet x0 x1 post) : Met l yX11_isSet (.code yX11_isSet cX11_isSet 2 (some .boolean) :: BIG) ({ frames := 1, cells := 0, slots := 0, locals := 25 }) (Pr D D2 A ad N T I J Q [.int x0, .int x1]) (va_Qi (fun (r : Int32) (u : KS) => post r ∧ u.1 = I ∧ u.2.1 = J ∧ u.2.2 = Q ∧ WF Z N T u.2.2) (Bw D D2 ad N T) A) 0 0 A := by
  refine Met_GG (lv0 := [(0, .int x0), (1, .int x1)]) (by decide +kernel) [.int x0, .int x1] (Nat.le_of_ble_eq_true rfl) rfl ?_
  intro p e s m below meth c C hr
  have C : CX p s m [.int x0, .int x1].toArray meth c cX11_isSet 2 RX11 A D D2 := C
  unfold wp_X11_isSet at hw
  refine g_iload_n C dX11_isSet_0 rfl 0 rfl ?_
  refine g_i2l C dX11_isSet_1 ?_
  refine g_lconst (v := (0 : Int64)) C dX11_isSet_2 (by decide) ?_
  refine g_iconst (v := (1 : Int32)) C dX11_isSet_3 (by decide) ?_
  refine g_iload_n C dX11_isSet_4 rfl 1 rfl ?_
  refine g_ishl C dX11_isSet_5 ?_
  refine g_iconst (v := (1 : Int32)) C dX11_isSet_6 (by decide) ?_
  refine g_isub C dX11_isSet_7 ?_
  refine g_i2l C dX11_isSet_8 ?_
  refine g_callSi (As := [.long (x0.toInt64), .long (0 : Int64), .long ((((1 : Int32) <<< (x1 &&& 31)) - (1 : Int32)).toInt64)]) C dX11_isSet_9 ft_397 ft_398 (met_X11_in l hWF  hw) ⟨rfl, rfl, Nat.le_of_ble_eq_true rfl, Nat.le_of_ble_eq_true rfl⟩ ⟨Nat.zero_le _, Nat.zero_le _⟩ rfl rfl (Nat.le_of_ble_eq_true rfl) (fun r1 I1 J1 Q1 hp => ?_)
  obtain ⟨hw, eI, eJ, eQ, hWF⟩ := hp
  have eI : I = I1 := Eq.symm eI
  subst eI
  have eJ : J = J1 := Eq.symm eJ
  subst eJ
  have eQ : Q = Q1 := Eq.symm eQ
  subst eQ
  try dsimp only at hw hWF
  exact g_zret C dX11_isSet_12 hr (nar_b hw.1) ⟨hw.2, rfl, rfl, rfl, hWF⟩
def wp_X11_isNode (I : KI) (Q : KQ) (h0 : Nat) (x1 : Int32) (post : Int32 → Prop) : Prop := wp_X11_in (x1.toInt64) (0 : Int64) (((I (rq Q h0 0) (0 : Int32).toNatClampNeg) - (1 : Int32)).toInt64) (fun r2 => ((r2 = 0 ∨ r2 = 1) ∧ post r2))
set_option maxHeartbeats 4000000 in
set_option maxRecDepth 100000 in
theorem met_X11_isNode {Z : Nat → Prop} {A : Nat → Prop} {D : va_G} {D2 : Nat → ClassId} {ad : Nat → Nat} {N : Nat} {T : Nat → Nat × Nat} (l : Launch) {I : KI} {J : KJ} {Q : KQ} {h0 : Nat} {x1 : Int32} {post : Int32 → Prop} (hWF : WF Z N T Q) (z0 : OKr Z N T h0 (11, 0)) (hw : wp_X11_isNode I Q h0 x1 post) : Met l yX11_isNode (.code yX11_isNode cX11_isNode 2 (some .boolean) :: BIG) ({ frames := 1, cells := 0, slots := 0, locals := 25 }) (Pr D D2 A ad N T I J Q [.ref (ad h0), .int x1]) (va_Qi (fun (r : Int32) (u : KS) => post r ∧ u.1 = I ∧ u.2.1 = J ∧ u.2.2 = Q ∧ WF Z N T u.2.2) (Bw D D2 ad N T) A) 0 0 A := by
  refine Met_GG (lv0 := [(0, .ref (ad h0)), (1, .int x1)]) (by decide +kernel) [.ref (ad h0), .int x1] (Nat.le_of_ble_eq_true rfl) rfl ?_
  intro p e s m below meth c C hr
  have C : CX p s m [.ref (ad h0), .int x1].toArray meth c cX11_isNode 2 RX11 A D D2 := C
  unfold wp_X11_isNode at hw
  refine g_iload_n C dX11_isNode_0 rfl 1 rfl ?_
  refine g_i2l C dX11_isNode_1 ?_
  refine g_lconst (v := (0 : Int64)) C dX11_isNode_2 (by decide) ?_
  refine g_aload_n C dX11_isNode_3 rfl 0 rfl ?_
  refine g_getQ C dX11_isNode_4 ft_363 z0 (hWF.q z0 0 rfl) ?_
  have zz1 := hWF.r z0 0 rfl
  refine g_iconst (v := (0 : Int32)) C dX11_isNode_7 (by decide) ?_
  refine g_iald C dX11_isNode_8 zz1 (vp_lit (by decide +kernel)) ?_
  refine g_iconst (v := (1 : Int32)) C dX11_isNode_9 (by decide) ?_
  refine g_isub C dX11_isNode_10 ?_
  refine g_i2l C dX11_isNode_11 ?_
  refine g_callSi (As := [.long (x1.toInt64), .long (0 : Int64), .long (((I (rq Q h0 0) (0 : Int32).toNatClampNeg) - (1 : Int32)).toInt64)]) C dX11_isNode_12 ft_397 ft_398 (met_X11_in l hWF  hw) ⟨rfl, rfl, Nat.le_of_ble_eq_true rfl, Nat.le_of_ble_eq_true rfl⟩ ⟨Nat.zero_le _, Nat.zero_le _⟩ rfl rfl (Nat.le_of_ble_eq_true rfl) (fun r2 I2 J2 Q2 hp => ?_)
  obtain ⟨hw, eI, eJ, eQ, hWF⟩ := hp
  have eI : I = I2 := Eq.symm eI
  subst eI
  have eJ : J = J2 := Eq.symm eJ
  subst eJ
  have eQ : Q = Q2 := Eq.symm eQ
  subst eQ
  try dsimp only at hw hWF
  exact g_zret C dX11_isNode_15 hr (nar_b hw.1) ⟨hw.2, rfl, rfl, rfl, hWF⟩
def wp_X11_tells_L4 (If_1 : KI) (Qf_1 : KQ) (f0_1 : Nat) (f1_1 : Int32) (post : Int32 → Prop) : Nat → Int32 → Int32 → Prop
  | 0, _, _ => False
  | n4 + 1, x2_1, x3_1 => (((If_1 (rq Qf_1 f0_1 0) (1 : Int32).toNatClampNeg) ≤ x3_1 → post x2_1) ∧ (¬ (If_1 (rq Qf_1 f0_1 0) (1 : Int32).toNatClampNeg) ≤ x3_1 → wp_X11_isKnown If_1 Qf_1 f0_1 f1_1 ((1 : Int32) <<< (x3_1 &&& 31)) (fun r4 => ((r4 = 0 → wp_X11_tells_L4 If_1 Qf_1 f0_1 f1_1 post n4 (x2_1 ||| (0 : Int32)) (x3_1 + (1 : Int32))) ∧ (¬ r4 = 0 → wp_X11_tells_L4 If_1 Qf_1 f0_1 f1_1 post n4 (x2_1 ||| ((1 : Int32) <<< (x3_1 &&& 31))) (x3_1 + (1 : Int32)))))))
def wp_X11_tells (I : KI) (Q : KQ) (h0 : Nat) (x1 : Int32) (post : Int32 → Prop) : Prop := (∃ q4, wp_X11_tells_L4 I Q h0 x1 post q4 (0 : Int32) (0 : Int32))
set_option maxHeartbeats 4000000 in
set_option maxRecDepth 100000 in
theorem met_X11_tells {Z : Nat → Prop} {A : Nat → Prop} {D : va_G} {D2 : Nat → ClassId} {ad : Nat → Nat} {N : Nat} {T : Nat → Nat × Nat} (l : Launch) {I : KI} {J : KJ} {Q : KQ} {h0 : Nat} {x1 : Int32} {post : Int32 → Prop} (hWF : WF Z N T Q) (z0 : OKr Z N T h0 (11, 0)) (hw : wp_X11_tells I Q h0 x1 post) : Met l yX11_tells (.code yX11_tells cX11_tells 4 (some .int) :: BIG) ({ frames := 2, cells := 0, slots := 0, locals := 43 }) (Pr D D2 A ad N T I J Q [.ref (ad h0), .int x1]) (va_Qi (fun (r : Int32) (u : KS) => post r ∧ u.1 = I ∧ u.2.1 = J ∧ u.2.2 = Q ∧ WF Z N T u.2.2) (Bw D D2 ad N T) A) 0 0 A := by
  refine Met_GG (lv0 := [(0, .ref (ad h0)), (1, .int x1)]) (by decide +kernel) [.ref (ad h0), .int x1] (Nat.le_of_ble_eq_true rfl) rfl ?_
  intro p e s m below meth c C hr
  have C : CX p s m [.ref (ad h0), .int x1].toArray meth c cX11_tells 4 RX11 A D D2 := C
  unfold wp_X11_tells at hw
  refine g_iconst (v := (0 : Int32)) C dX11_tells_0 (by decide) ?_
  refine g_istore_n (lv' := [(2, .int (0 : Int32)), (0, .ref (ad h0)), (1, .int x1)]) C dX11_tells_1 rfl (by decide) rfl ?_
  refine g_iconst (v := (0 : Int32)) C dX11_tells_2 (by decide) ?_
  refine g_istore_n (lv' := [(3, .int (0 : Int32)), (2, .int (0 : Int32)), (0, .ref (ad h0)), (1, .int x1)]) C dX11_tells_3 rfl (by decide) rfl ?_
  have L4_u6 : ∀ (n4 : Nat) (x2_1 : Int32) (x3_1 : Int32), wp_X11_tells_L4 I Q h0 x1 post n4 x2_1 x3_1 → WF Z N T Q → GG p l e ({ frames := 2, cells := 0, slots := 0, locals := 43 }) s m [.ref (ad h0), .int x1].toArray below meth c 4 A D D2 0 0 (MQ below (va_Qi (fun (r : Int32) (u : KS) => post r ∧ u.1 = I ∧ u.2.1 = J ∧ u.2.2 = Q ∧ WF Z N T u.2.2) (Bw D D2 ad N T) A) [.ref (ad h0), .int x1].toArray s 0 0 A) ad N T I J Q 4 [(0, .ref (ad h0)), (1, .int x1), (2, .int x2_1), (3, .int x3_1)] [] := by
    intro n4
    induction n4 with
    | zero => intro x2_1 x3_1 hw; exact hw.elim
    | succ n4 ih_u6 =>
      intro x2_1 x3_1 hw hWF
      unfold wp_X11_tells_L4 at hw
      refine g_iload_n C dX11_tells_4 rfl 3 rfl ?_
      refine g_aload_n C dX11_tells_5 rfl 0 rfl ?_
      refine g_getQ C dX11_tells_6 ft_363 z0 (hWF.q z0 0 rfl) ?_
      have zz8 := hWF.r z0 0 rfl
      refine g_iconst (v := (1 : Int32)) C dX11_tells_9 (by decide) ?_
      refine g_iald C dX11_tells_10 zz8 (vp_lit (by decide +kernel)) ?_
      refine g_icmp_ge (tgt := 41) C dX11_tells_11 (by decide) (fun c9 => ?_) (fun c9 => ?_)
      · have hw := hw.1 c9
        refine g_iload_n C dX11_tells_41 rfl 2 rfl ?_
        exact g_iret C dX11_tells_42 hr ⟨hw, rfl, rfl, rfl, hWF⟩
      · have hw := hw.2 c9
        refine g_iload_n C dX11_tells_14 rfl 2 rfl ?_
        refine g_aload_n C dX11_tells_15 rfl 0 rfl ?_
        refine g_iload_n C dX11_tells_16 rfl 1 rfl ?_
        refine g_iconst (v := (1 : Int32)) C dX11_tells_17 (by decide) ?_
        refine g_iload_n C dX11_tells_18 rfl 3 rfl ?_
        refine g_ishl C dX11_tells_19 ?_
        refine g_callVi (As := [.int x1, .int ((1 : Int32) <<< (x3_1 &&& 31))]) C dX11_tells_20 ft_387 z0 ft_391 ft_392 (met_X11_isKnown l hWF z0 hw) ⟨rfl, rfl, Nat.le_of_ble_eq_true rfl, Nat.le_of_ble_eq_true rfl⟩ ⟨Nat.zero_le _, Nat.zero_le _⟩ rfl rfl (Nat.le_of_ble_eq_true rfl) (fun r10 I10 J10 Q10 hp => ?_)
        obtain ⟨hw, eI, eJ, eQ, hWF⟩ := hp
        have eI : I = I10 := Eq.symm eI
        subst eI
        have eJ : J = J10 := Eq.symm eJ
        subst eJ
        have eQ : Q = Q10 := Eq.symm eQ
        subst eQ
        try dsimp only at hw hWF
        refine g_if_eq (tgt := 32) C dX11_tells_23 (by decide) (fun c11 => ?_) (fun c11 => ?_)
        · have hw := hw.1 c11
          refine g_iconst (v := (0 : Int32)) C dX11_tells_32 (by decide) ?_
          refine g_ior C dX11_tells_33 ?_
          refine g_istore_n (lv' := [(2, .int (x2_1 ||| (0 : Int32))), (0, .ref (ad h0)), (1, .int x1), (3, .int x3_1)]) C dX11_tells_34 rfl (by decide) rfl ?_
          refine g_iinc (v := (x3_1 + (1 : Int32))) (lv' := [(3, .int (x3_1 + (1 : Int32))), (2, .int (x2_1 ||| (0 : Int32))), (0, .ref (ad h0)), (1, .int x1)]) C dX11_tells_35 (q := 3) rfl rfl (by decide) rfl ?_
          refine g_goto C dX11_tells_38 (tgt := 4) (by decide) ?_
          refine g_sub [2, 3, 1, 0] rfl ?_
          exact ih_u6 (x2_1 ||| (0 : Int32)) (x3_1 + (1 : Int32)) hw hWF
        · have hw := hw.2 c11
          refine g_iconst (v := (1 : Int32)) C dX11_tells_26 (by decide) ?_
          refine g_iload_n C dX11_tells_27 rfl 3 rfl ?_
          refine g_ishl C dX11_tells_28 ?_
          refine g_goto C dX11_tells_29 (tgt := 33) (by decide) ?_
          refine g_ior C dX11_tells_33 ?_
          refine g_istore_n (lv' := [(2, .int (x2_1 ||| ((1 : Int32) <<< (x3_1 &&& 31)))), (0, .ref (ad h0)), (1, .int x1), (3, .int x3_1)]) C dX11_tells_34 rfl (by decide) rfl ?_
          refine g_iinc (v := (x3_1 + (1 : Int32))) (lv' := [(3, .int (x3_1 + (1 : Int32))), (2, .int (x2_1 ||| ((1 : Int32) <<< (x3_1 &&& 31)))), (0, .ref (ad h0)), (1, .int x1)]) C dX11_tells_35 (q := 3) rfl rfl (by decide) rfl ?_
          refine g_goto C dX11_tells_38 (tgt := 4) (by decide) ?_
          refine g_sub [2, 3, 1, 0] rfl ?_
          exact ih_u6 (x2_1 ||| ((1 : Int32) <<< (x3_1 &&& 31))) (x3_1 + (1 : Int32)) hw hWF
  obtain ⟨n_u6, hw⟩ := hw
  refine g_sub [2, 3, 1, 0] rfl ?_
  exact L4_u6 n_u6 (0 : Int32) (0 : Int32) hw hWF
def wp_X11_ranks_L4 (If_1 : KI) (Qf_1 : KQ) (f0_1 : Nat) (post : Int32 → Prop) : Nat → Int32 → Int32 → Prop
  | 0, _, _ => False
  | n4 + 1, x1_1, x2_1 => (((If_1 (rq Qf_1 f0_1 0) (0 : Int32).toNatClampNeg) ≤ x2_1 → post x1_1) ∧ (¬ (If_1 (rq Qf_1 f0_1 0) (0 : Int32).toNatClampNeg) ≤ x2_1 → wp_X11_rank If_1 Qf_1 f0_1 x2_1 (fun r4 => wp_X11_ranks_L4 If_1 Qf_1 f0_1 post n4 (x1_1 + r4) (x2_1 + (1 : Int32)))))
def wp_X11_ranks (I : KI) (Q : KQ) (h0 : Nat) (post : Int32 → Prop) : Prop := (∃ q4, wp_X11_ranks_L4 I Q h0 post q4 (0 : Int32) (0 : Int32))
set_option maxHeartbeats 4000000 in
set_option maxRecDepth 100000 in
theorem met_X11_ranks {Z : Nat → Prop} {A : Nat → Prop} {D : va_G} {D2 : Nat → ClassId} {ad : Nat → Nat} {N : Nat} {T : Nat → Nat × Nat} (l : Launch) {I : KI} {J : KJ} {Q : KQ} {h0 : Nat} {post : Int32 → Prop} (hWF : WF Z N T Q) (z0 : OKr Z N T h0 (11, 0)) (hw : wp_X11_ranks I Q h0 post) : Met l yX11_ranks (.code yX11_ranks cX11_ranks 3 (some .int) :: BIG) ({ frames := 2, cells := 0, slots := 0, locals := 45 }) (Pr D D2 A ad N T I J Q [.ref (ad h0)]) (va_Qi (fun (r : Int32) (u : KS) => post r ∧ u.1 = I ∧ u.2.1 = J ∧ u.2.2 = Q ∧ WF Z N T u.2.2) (Bw D D2 ad N T) A) 0 0 A := by
  refine Met_GG (lv0 := [(0, .ref (ad h0))]) (by decide +kernel) [.ref (ad h0)] (Nat.le_of_ble_eq_true rfl) rfl ?_
  intro p e s m below meth c C hr
  have C : CX p s m [.ref (ad h0)].toArray meth c cX11_ranks 3 RX11 A D D2 := C
  unfold wp_X11_ranks at hw
  refine g_iconst (v := (0 : Int32)) C dX11_ranks_0 (by decide) ?_
  refine g_istore_n (lv' := [(1, .int (0 : Int32)), (0, .ref (ad h0))]) C dX11_ranks_1 rfl (by decide) rfl ?_
  refine g_iconst (v := (0 : Int32)) C dX11_ranks_2 (by decide) ?_
  refine g_istore_n (lv' := [(2, .int (0 : Int32)), (1, .int (0 : Int32)), (0, .ref (ad h0))]) C dX11_ranks_3 rfl (by decide) rfl ?_
  have L4_u5 : ∀ (n4 : Nat) (x1_1 : Int32) (x2_1 : Int32), wp_X11_ranks_L4 I Q h0 post n4 x1_1 x2_1 → WF Z N T Q → GG p l e ({ frames := 2, cells := 0, slots := 0, locals := 45 }) s m [.ref (ad h0)].toArray below meth c 3 A D D2 0 0 (MQ below (va_Qi (fun (r : Int32) (u : KS) => post r ∧ u.1 = I ∧ u.2.1 = J ∧ u.2.2 = Q ∧ WF Z N T u.2.2) (Bw D D2 ad N T) A) [.ref (ad h0)].toArray s 0 0 A) ad N T I J Q 4 [(0, .ref (ad h0)), (1, .int x1_1), (2, .int x2_1)] [] := by
    intro n4
    induction n4 with
    | zero => intro x1_1 x2_1 hw; exact hw.elim
    | succ n4 ih_u5 =>
      intro x1_1 x2_1 hw hWF
      unfold wp_X11_ranks_L4 at hw
      refine g_iload_n C dX11_ranks_4 rfl 2 rfl ?_
      refine g_aload_n C dX11_ranks_5 rfl 0 rfl ?_
      refine g_getQ C dX11_ranks_6 ft_363 z0 (hWF.q z0 0 rfl) ?_
      have zz7 := hWF.r z0 0 rfl
      refine g_iconst (v := (0 : Int32)) C dX11_ranks_9 (by decide) ?_
      refine g_iald C dX11_ranks_10 zz7 (vp_lit (by decide +kernel)) ?_
      refine g_icmp_ge (tgt := 28) C dX11_ranks_11 (by decide) (fun c8 => ?_) (fun c8 => ?_)
      · have hw := hw.1 c8
        refine g_iload_n C dX11_ranks_28 rfl 1 rfl ?_
        exact g_iret C dX11_ranks_29 hr ⟨hw, rfl, rfl, rfl, hWF⟩
      · have hw := hw.2 c8
        refine g_iload_n C dX11_ranks_14 rfl 1 rfl ?_
        refine g_aload_n C dX11_ranks_15 rfl 0 rfl ?_
        refine g_iload_n C dX11_ranks_16 rfl 2 rfl ?_
        refine g_callVi (As := [.int x2_1]) C dX11_ranks_17 ft_387 z0 ft_399 ft_400 (met_X11_rank l hWF z0 hw) ⟨rfl, rfl, Nat.le_of_ble_eq_true rfl, Nat.le_of_ble_eq_true rfl⟩ ⟨Nat.zero_le _, Nat.zero_le _⟩ rfl rfl (Nat.le_of_ble_eq_true rfl) (fun r9 I9 J9 Q9 hp => ?_)
        obtain ⟨hw, eI, eJ, eQ, hWF⟩ := hp
        have eI : I = I9 := Eq.symm eI
        subst eI
        have eJ : J = J9 := Eq.symm eJ
        subst eJ
        have eQ : Q = Q9 := Eq.symm eQ
        subst eQ
        try dsimp only at hw hWF
        refine g_iadd C dX11_ranks_20 ?_
        refine g_istore_n (lv' := [(1, .int (x1_1 + r9)), (0, .ref (ad h0)), (2, .int x2_1)]) C dX11_ranks_21 rfl (by decide) rfl ?_
        refine g_iinc (v := (x2_1 + (1 : Int32))) (lv' := [(2, .int (x2_1 + (1 : Int32))), (1, .int (x1_1 + r9)), (0, .ref (ad h0))]) C dX11_ranks_22 (q := 2) rfl rfl (by decide) rfl ?_
        refine g_goto C dX11_ranks_25 (tgt := 4) (by decide) ?_
        refine g_sub [2, 1, 0] rfl ?_
        exact ih_u5 (x1_1 + r9) (x2_1 + (1 : Int32)) hw hWF
  obtain ⟨n_u5, hw⟩ := hw
  refine g_sub [2, 1, 0] rfl ?_
  exact L4_u5 n_u5 (0 : Int32) (0 : Int32) hw hWF
def wp_X11_whole_L4 (If_1 : KI) (Qf_1 : KQ) (f0_1 : Nat) (post : Int32 → Prop) : Nat → Int32 → Int32 → Prop
  | 0, _, _ => False
  | n4 + 1, x1_1, x2_1 => (((If_1 (rq Qf_1 f0_1 0) (0 : Int32).toNatClampNeg) ≤ x2_1 → post x1_1) ∧ (¬ (If_1 (rq Qf_1 f0_1 0) (0 : Int32).toNatClampNeg) ≤ x2_1 → wp_X11_rank If_1 Qf_1 f0_1 x2_1 (fun r4 => ((¬ r4 = (If_1 (rq Qf_1 f0_1 0) (1 : Int32).toNatClampNeg) → wp_X11_whole_L4 If_1 Qf_1 f0_1 post n4 (x1_1 + (0 : Int32)) (x2_1 + (1 : Int32))) ∧ (r4 = (If_1 (rq Qf_1 f0_1 0) (1 : Int32).toNatClampNeg) → wp_X11_whole_L4 If_1 Qf_1 f0_1 post n4 (x1_1 + (1 : Int32)) (x2_1 + (1 : Int32)))))))
def wp_X11_whole (I : KI) (Q : KQ) (h0 : Nat) (post : Int32 → Prop) : Prop := (∃ q4, wp_X11_whole_L4 I Q h0 post q4 (0 : Int32) (0 : Int32))
set_option maxHeartbeats 4000000 in
set_option maxRecDepth 100000 in
theorem met_X11_whole {Z : Nat → Prop} {A : Nat → Prop} {D : va_G} {D2 : Nat → ClassId} {ad : Nat → Nat} {N : Nat} {T : Nat → Nat × Nat} (l : Launch) {I : KI} {J : KJ} {Q : KQ} {h0 : Nat} {post : Int32 → Prop} (hWF : WF Z N T Q) (z0 : OKr Z N T h0 (11, 0)) (hw : wp_X11_whole I Q h0 post) : Met l yX11_whole (.code yX11_whole cX11_whole 3 (some .int) :: BIG) ({ frames := 2, cells := 0, slots := 0, locals := 45 }) (Pr D D2 A ad N T I J Q [.ref (ad h0)]) (va_Qi (fun (r : Int32) (u : KS) => post r ∧ u.1 = I ∧ u.2.1 = J ∧ u.2.2 = Q ∧ WF Z N T u.2.2) (Bw D D2 ad N T) A) 0 0 A := by
  refine Met_GG (lv0 := [(0, .ref (ad h0))]) (by decide +kernel) [.ref (ad h0)] (Nat.le_of_ble_eq_true rfl) rfl ?_
  intro p e s m below meth c C hr
  have C : CX p s m [.ref (ad h0)].toArray meth c cX11_whole 3 RX11 A D D2 := C
  unfold wp_X11_whole at hw
  refine g_iconst (v := (0 : Int32)) C dX11_whole_0 (by decide) ?_
  refine g_istore_n (lv' := [(1, .int (0 : Int32)), (0, .ref (ad h0))]) C dX11_whole_1 rfl (by decide) rfl ?_
  refine g_iconst (v := (0 : Int32)) C dX11_whole_2 (by decide) ?_
  refine g_istore_n (lv' := [(2, .int (0 : Int32)), (1, .int (0 : Int32)), (0, .ref (ad h0))]) C dX11_whole_3 rfl (by decide) rfl ?_
  have L4_u7 : ∀ (n4 : Nat) (x1_1 : Int32) (x2_1 : Int32), wp_X11_whole_L4 I Q h0 post n4 x1_1 x2_1 → WF Z N T Q → GG p l e ({ frames := 2, cells := 0, slots := 0, locals := 45 }) s m [.ref (ad h0)].toArray below meth c 3 A D D2 0 0 (MQ below (va_Qi (fun (r : Int32) (u : KS) => post r ∧ u.1 = I ∧ u.2.1 = J ∧ u.2.2 = Q ∧ WF Z N T u.2.2) (Bw D D2 ad N T) A) [.ref (ad h0)].toArray s 0 0 A) ad N T I J Q 4 [(0, .ref (ad h0)), (1, .int x1_1), (2, .int x2_1)] [] := by
    intro n4
    induction n4 with
    | zero => intro x1_1 x2_1 hw; exact hw.elim
    | succ n4 ih_u7 =>
      intro x1_1 x2_1 hw hWF
      unfold wp_X11_whole_L4 at hw
      refine g_iload_n C dX11_whole_4 rfl 2 rfl ?_
      refine g_aload_n C dX11_whole_5 rfl 0 rfl ?_
      refine g_getQ C dX11_whole_6 ft_363 z0 (hWF.q z0 0 rfl) ?_
      have zz9 := hWF.r z0 0 rfl
      refine g_iconst (v := (0 : Int32)) C dX11_whole_9 (by decide) ?_
      refine g_iald C dX11_whole_10 zz9 (vp_lit (by decide +kernel)) ?_
      refine g_icmp_ge (tgt := 42) C dX11_whole_11 (by decide) (fun c10 => ?_) (fun c10 => ?_)
      · have hw := hw.1 c10
        refine g_iload_n C dX11_whole_42 rfl 1 rfl ?_
        exact g_iret C dX11_whole_43 hr ⟨hw, rfl, rfl, rfl, hWF⟩
      · have hw := hw.2 c10
        refine g_iload_n C dX11_whole_14 rfl 1 rfl ?_
        refine g_aload_n C dX11_whole_15 rfl 0 rfl ?_
        refine g_iload_n C dX11_whole_16 rfl 2 rfl ?_
        refine g_callVi (As := [.int x2_1]) C dX11_whole_17 ft_387 z0 ft_399 ft_400 (met_X11_rank l hWF z0 hw) ⟨rfl, rfl, Nat.le_of_ble_eq_true rfl, Nat.le_of_ble_eq_true rfl⟩ ⟨Nat.zero_le _, Nat.zero_le _⟩ rfl rfl (Nat.le_of_ble_eq_true rfl) (fun r11 I11 J11 Q11 hp => ?_)
        obtain ⟨hw, eI, eJ, eQ, hWF⟩ := hp
        have eI : I = I11 := Eq.symm eI
        subst eI
        have eJ : J = J11 := Eq.symm eJ
        subst eJ
        have eQ : Q = Q11 := Eq.symm eQ
        subst eQ
        try dsimp only at hw hWF
        refine g_aload_n C dX11_whole_20 rfl 0 rfl ?_
        refine g_getQ C dX11_whole_21 ft_363 z0 (hWF.q z0 0 rfl) ?_
        have zz12 := hWF.r z0 0 rfl
        refine g_iconst (v := (1 : Int32)) C dX11_whole_24 (by decide) ?_
        refine g_iald C dX11_whole_25 zz12 (vp_lit (by decide +kernel)) ?_
        refine g_icmp_ne (tgt := 33) C dX11_whole_26 (by decide) (fun c13 => ?_) (fun c13 => ?_)
        · have hw := hw.1 c13
          refine g_iconst (v := (0 : Int32)) C dX11_whole_33 (by decide) ?_
          refine g_iadd C dX11_whole_34 ?_
          refine g_istore_n (lv' := [(1, .int (x1_1 + (0 : Int32))), (0, .ref (ad h0)), (2, .int x2_1)]) C dX11_whole_35 rfl (by decide) rfl ?_
          refine g_iinc (v := (x2_1 + (1 : Int32))) (lv' := [(2, .int (x2_1 + (1 : Int32))), (1, .int (x1_1 + (0 : Int32))), (0, .ref (ad h0))]) C dX11_whole_36 (q := 2) rfl rfl (by decide) rfl ?_
          refine g_goto C dX11_whole_39 (tgt := 4) (by decide) ?_
          refine g_sub [2, 1, 0] rfl ?_
          exact ih_u7 (x1_1 + (0 : Int32)) (x2_1 + (1 : Int32)) hw hWF
        · have hw := hw.2 c13
          refine g_iconst (v := (1 : Int32)) C dX11_whole_29 (by decide) ?_
          refine g_goto C dX11_whole_30 (tgt := 34) (by decide) ?_
          refine g_iadd C dX11_whole_34 ?_
          refine g_istore_n (lv' := [(1, .int (x1_1 + (1 : Int32))), (0, .ref (ad h0)), (2, .int x2_1)]) C dX11_whole_35 rfl (by decide) rfl ?_
          refine g_iinc (v := (x2_1 + (1 : Int32))) (lv' := [(2, .int (x2_1 + (1 : Int32))), (1, .int (x1_1 + (1 : Int32))), (0, .ref (ad h0))]) C dX11_whole_36 (q := 2) rfl rfl (by decide) rfl ?_
          refine g_goto C dX11_whole_39 (tgt := 4) (by decide) ?_
          refine g_sub [2, 1, 0] rfl ?_
          exact ih_u7 (x1_1 + (1 : Int32)) (x2_1 + (1 : Int32)) hw hWF
  obtain ⟨n_u7, hw⟩ := hw
  refine g_sub [2, 1, 0] rfl ?_
  exact L4_u7 n_u7 (0 : Int32) (0 : Int32) hw hWF
def wp_X11_goesOn  (x0 : Int32) (post : Int32 → Prop) : Prop := post (((((x0.toInt64) * (1103515245 : Int64)) + (12345 : Int64)) &&& (2147483647 : Int64)).toInt32)
set_option maxHeartbeats 4000000 in
set_option maxRecDepth 100000 in
theorem met_X11_goesOn {Z : Nat → Prop} {A : Nat → Prop} {D : va_G} {D2 : Nat → ClassId} {ad : Nat → Nat} {N : Nat} {T : Nat → Nat × Nat} (l : Launch) {I : KI} {J : KJ} {Q : KQ} {x0 : Int32} {post : Int32 → Prop} (hWF : WF Z N T Q)  (hw : wp_X11_goesOn x0 post) : Met l yX11_goesOn (.code yX11_goesOn cX11_goesOn 1 (some .int) :: BIG) ({ frames := 0, cells := 0, slots := 0, locals := 0 }) (Pr D D2 A ad N T I J Q [.int x0]) (va_Qi (fun (r : Int32) (u : KS) => post r ∧ u.1 = I ∧ u.2.1 = J ∧ u.2.2 = Q ∧ WF Z N T u.2.2) (Bw D D2 ad N T) A) 0 0 A := by
  refine Met_GG (lv0 := [(0, .int x0)]) (by decide +kernel) [.int x0] (Nat.le_of_ble_eq_true rfl) rfl ?_
  intro p e s m below meth c C hr
  have C : CX p s m [.int x0].toArray meth c cX11_goesOn 1 RX11 A D D2 := C
  unfold wp_X11_goesOn at hw
  refine g_iload_n C dX11_goesOn_0 rfl 0 rfl ?_
  refine g_i2l C dX11_goesOn_1 ?_
  refine g_ldc2 C dX11_goesOn_2 ft_401 ?_
  refine g_lmul C dX11_goesOn_5 ?_
  refine g_ldc2 C dX11_goesOn_6 ft_402 ?_
  refine g_ladd C dX11_goesOn_9 ?_
  refine g_ldc2 C dX11_goesOn_10 ft_403 ?_
  refine g_land C dX11_goesOn_13 ?_
  refine g_l2i C dX11_goesOn_14 ?_
  exact g_iret C dX11_goesOn_15 hr ⟨hw, rfl, rfl, rfl, hWF⟩
def wp_X11_leastOf_L20 (If_3 : KI) (Qf_3 : KQ) (f0_3 : Nat) (f2_3 : Int32) (post : Int32 → Prop) : Nat → Int32 → Prop
  | 0, _ => False
  | n20 + 1, x3_3 => (((If_3 (rq Qf_3 f0_3 0) (1 : Int32).toNatClampNeg) ≤ x3_3 → post (-4 : Int32)) ∧ (¬ (If_3 (rq Qf_3 f0_3 0) (1 : Int32).toNatClampNeg) ≤ x3_3 → wp_X11_has f2_3 x3_3 (fun r6 => ((r6 = 0 → wp_X11_leastOf_L20 If_3 Qf_3 f0_3 f2_3 post n20 (x3_3 + (1 : Int32))) ∧ (¬ r6 = 0 → post x3_3)))))
def wp_X11_leastOf (I : KI) (Q : KQ) (h0 : Nat) (x1 : Int32) (post : Int32 → Prop) : Prop := wp_X11_tells I Q h0 x1 (fun r1 => (vp_in ((15 : Int32) + x1) 69 ∧ (∃ q20, wp_X11_leastOf_L20 I Q h0 (r1 &&& ((I (rq Q h0 0) ((15 : Int32) + x1).toNatClampNeg) ^^^ (-1 : Int32))) post q20 (0 : Int32))))
set_option maxHeartbeats 4000000 in
set_option maxRecDepth 100000 in
theorem met_X11_leastOf {Z : Nat → Prop} {A : Nat → Prop} {D : va_G} {D2 : Nat → ClassId} {ad : Nat → Nat} {N : Nat} {T : Nat → Nat × Nat} (l : Launch) {I : KI} {J : KJ} {Q : KQ} {h0 : Nat} {x1 : Int32} {post : Int32 → Prop} (hWF : WF Z N T Q) (z0 : OKr Z N T h0 (11, 0)) (hw : wp_X11_leastOf I Q h0 x1 post) : Met l yX11_leastOf (.code yX11_leastOf cX11_leastOf 4 (some .int) :: BIG) ({ frames := 3, cells := 0, slots := 0, locals := 66 }) (Pr D D2 A ad N T I J Q [.ref (ad h0), .int x1]) (va_Qi (fun (r : Int32) (u : KS) => post r ∧ u.1 = I ∧ u.2.1 = J ∧ u.2.2 = Q ∧ WF Z N T u.2.2) (Bw D D2 ad N T) A) 0 0 A := by
  refine Met_GG (lv0 := [(0, .ref (ad h0)), (1, .int x1)]) (by decide +kernel) [.ref (ad h0), .int x1] (Nat.le_of_ble_eq_true rfl) rfl ?_
  intro p e s m below meth c C hr
  have C : CX p s m [.ref (ad h0), .int x1].toArray meth c cX11_leastOf 4 RX11 A D D2 := C
  unfold wp_X11_leastOf at hw
  refine g_aload_n C dX11_leastOf_0 rfl 0 rfl ?_
  refine g_iload_n C dX11_leastOf_1 rfl 1 rfl ?_
  refine g_callVi (As := [.int x1]) C dX11_leastOf_2 ft_387 z0 ft_404 ft_405 (met_X11_tells l hWF z0 hw) ⟨rfl, rfl, Nat.le_of_ble_eq_true rfl, Nat.le_of_ble_eq_true rfl⟩ ⟨Nat.zero_le _, Nat.zero_le _⟩ rfl rfl (Nat.le_of_ble_eq_true rfl) (fun r1 I1 J1 Q1 hp => ?_)
  obtain ⟨hw, eI, eJ, eQ, hWF⟩ := hp
  have eI : I = I1 := Eq.symm eI
  subst eI
  have eJ : J = J1 := Eq.symm eJ
  subst eJ
  have eQ : Q = Q1 := Eq.symm eQ
  subst eQ
  try dsimp only at hw hWF
  refine g_aload_n C dX11_leastOf_5 rfl 0 rfl ?_
  refine g_getQ C dX11_leastOf_6 ft_363 z0 (hWF.q z0 0 rfl) ?_
  have zz2 := hWF.r z0 0 rfl
  refine g_bipush (v := (15 : Int32)) C dX11_leastOf_9 (by decide) ?_
  refine g_iload_n C dX11_leastOf_11 rfl 1 rfl ?_
  refine g_iadd C dX11_leastOf_12 ?_
  refine g_iald C dX11_leastOf_13 zz2 hw.1 ?_
  have hw := hw.2
  refine g_iconst (v := (-1 : Int32)) C dX11_leastOf_14 (by decide) ?_
  refine g_ixor C dX11_leastOf_15 ?_
  refine g_iand C dX11_leastOf_16 ?_
  refine g_istore_n (lv' := [(2, .int (r1 &&& ((I (rq Q h0 0) ((15 : Int32) + x1).toNatClampNeg) ^^^ (-1 : Int32)))), (0, .ref (ad h0)), (1, .int x1)]) C dX11_leastOf_17 rfl (by decide) rfl ?_
  refine g_iconst (v := (0 : Int32)) C dX11_leastOf_18 (by decide) ?_
  refine g_istore_n (lv' := [(3, .int (0 : Int32)), (2, .int (r1 &&& ((I (rq Q h0 0) ((15 : Int32) + x1).toNatClampNeg) ^^^ (-1 : Int32)))), (0, .ref (ad h0)), (1, .int x1)]) C dX11_leastOf_19 rfl (by decide) rfl ?_
  have L20_u8 : ∀ (n20 : Nat) (x3_3 : Int32), wp_X11_leastOf_L20 I Q h0 (r1 &&& ((I (rq Q h0 0) ((15 : Int32) + x1).toNatClampNeg) ^^^ (-1 : Int32))) post n20 x3_3 → WF Z N T Q → GG p l e ({ frames := 3, cells := 0, slots := 0, locals := 66 }) s m [.ref (ad h0), .int x1].toArray below meth c 4 A D D2 0 0 (MQ below (va_Qi (fun (r : Int32) (u : KS) => post r ∧ u.1 = I ∧ u.2.1 = J ∧ u.2.2 = Q ∧ WF Z N T u.2.2) (Bw D D2 ad N T) A) [.ref (ad h0), .int x1].toArray s 0 0 A) ad N T I J Q 20 [(0, .ref (ad h0)), (2, .int (r1 &&& ((I (rq Q h0 0) ((15 : Int32) + x1).toNatClampNeg) ^^^ (-1 : Int32)))), (3, .int x3_3)] [] := by
    intro n20
    induction n20 with
    | zero => intro x3_3 hw; exact hw.elim
    | succ n20 ih_u8 =>
      intro x3_3 hw hWF
      unfold wp_X11_leastOf_L20 at hw
      refine g_iload_n C dX11_leastOf_20 rfl 2 rfl ?_
      refine g_aload_n C dX11_leastOf_21 rfl 0 rfl ?_
      refine g_getQ C dX11_leastOf_22 ft_363 z0 (hWF.q z0 0 rfl) ?_
      have zz10 := hWF.r z0 0 rfl
      refine g_iconst (v := (1 : Int32)) C dX11_leastOf_25 (by decide) ?_
      refine g_iald C dX11_leastOf_26 zz10 (vp_lit (by decide +kernel)) ?_
      refine g_icmp_ge (tgt := 46) C dX11_leastOf_27 (by decide) (fun c11 => ?_) (fun c11 => ?_)
      · have hw := hw.1 c11
        refine g_bipush (v := (-4 : Int32)) C dX11_leastOf_46 (by decide) ?_
        exact g_iret C dX11_leastOf_48 hr ⟨hw, rfl, rfl, rfl, hWF⟩
      · have hw := hw.2 c11
        refine g_iload_n C dX11_leastOf_30 rfl 1 rfl ?_
        refine g_iload_n C dX11_leastOf_31 rfl 2 rfl ?_
        refine g_callSi (As := [.int (r1 &&& ((I (rq Q h0 0) ((15 : Int32) + x1).toNatClampNeg) ^^^ (-1 : Int32))), .int x3_3]) C dX11_leastOf_32 ft_381 ft_382 (met_X11_has l hWF  hw) ⟨rfl, rfl, Nat.le_of_ble_eq_true rfl, Nat.le_of_ble_eq_true rfl⟩ ⟨Nat.zero_le _, Nat.zero_le _⟩ rfl rfl (Nat.le_of_ble_eq_true rfl) (fun r12 I12 J12 Q12 hp => ?_)
        obtain ⟨hw, eI, eJ, eQ, hWF⟩ := hp
        have eI : I = I12 := Eq.symm eI
        subst eI
        have eJ : J = J12 := Eq.symm eJ
        subst eJ
        have eQ : Q = Q12 := Eq.symm eQ
        subst eQ
        try dsimp only at hw hWF
        refine g_if_eq (tgt := 40) C dX11_leastOf_35 (by decide) (fun c13 => ?_) (fun c13 => ?_)
        · have hw := hw.1 c13
          refine g_iinc (v := (x3_3 + (1 : Int32))) (lv' := [(3, .int (x3_3 + (1 : Int32))), (0, .ref (ad h0)), (2, .int (r1 &&& ((I (rq Q h0 0) ((15 : Int32) + x1).toNatClampNeg) ^^^ (-1 : Int32))))]) C dX11_leastOf_40 (q := 2) rfl rfl (by decide) rfl ?_
          refine g_goto C dX11_leastOf_43 (tgt := 20) (by decide) ?_
          refine g_sub [1, 2, 0] rfl ?_
          exact ih_u8 (x3_3 + (1 : Int32)) hw hWF
        · have hw := hw.2 c13
          refine g_iload_n C dX11_leastOf_38 rfl 2 rfl ?_
          exact g_iret C dX11_leastOf_39 hr ⟨hw, rfl, rfl, rfl, hWF⟩
  obtain ⟨n_u8, hw⟩ := hw
  refine g_sub [2, 1, 0] rfl ?_
  exact L20_u8 n_u8 (0 : Int32) hw hWF
def wp_X11_turnOf (I : KI) (Q : KQ) (h0 : Nat) (x1 : Int32) (post : Int32 → Prop) : Prop := (¬ (I (rq Q h0 0) (1 : Int32).toNatClampNeg) = 0 ∧ wp_X11_isKnown I Q h0 x1 ((1 : Int32) <<< (((I (rq Q h0 0) (4 : Int32).toNatClampNeg) - (I (rq Q h0 0) (4 : Int32).toNatClampNeg) / (I (rq Q h0 0) (1 : Int32).toNatClampNeg) * (I (rq Q h0 0) (1 : Int32).toNatClampNeg)) &&& 31)) (fun r3 => ((r3 = 0 → post (-4 : Int32)) ∧ (¬ r3 = 0 → post ((I (rq Q h0 0) (4 : Int32).toNatClampNeg) - (I (rq Q h0 0) (4 : Int32).toNatClampNeg) / (I (rq Q h0 0) (1 : Int32).toNatClampNeg) * (I (rq Q h0 0) (1 : Int32).toNatClampNeg))))))
set_option maxHeartbeats 4000000 in
set_option maxRecDepth 100000 in
theorem met_X11_turnOf {Z : Nat → Prop} {A : Nat → Prop} {D : va_G} {D2 : Nat → ClassId} {ad : Nat → Nat} {N : Nat} {T : Nat → Nat × Nat} (l : Launch) {I : KI} {J : KJ} {Q : KQ} {h0 : Nat} {x1 : Int32} {post : Int32 → Prop} (hWF : WF Z N T Q) (z0 : OKr Z N T h0 (11, 0)) (hw : wp_X11_turnOf I Q h0 x1 post) : Met l yX11_turnOf (.code yX11_turnOf cX11_turnOf 3 (some .int) :: BIG) ({ frames := 2, cells := 0, slots := 0, locals := 43 }) (Pr D D2 A ad N T I J Q [.ref (ad h0), .int x1]) (va_Qi (fun (r : Int32) (u : KS) => post r ∧ u.1 = I ∧ u.2.1 = J ∧ u.2.2 = Q ∧ WF Z N T u.2.2) (Bw D D2 ad N T) A) 0 0 A := by
  refine Met_GG (lv0 := [(0, .ref (ad h0)), (1, .int x1)]) (by decide +kernel) [.ref (ad h0), .int x1] (Nat.le_of_ble_eq_true rfl) rfl ?_
  intro p e s m below meth c C hr
  have C : CX p s m [.ref (ad h0), .int x1].toArray meth c cX11_turnOf 3 RX11 A D D2 := C
  unfold wp_X11_turnOf at hw
  refine g_aload_n C dX11_turnOf_0 rfl 0 rfl ?_
  refine g_getQ C dX11_turnOf_1 ft_363 z0 (hWF.q z0 0 rfl) ?_
  have zz1 := hWF.r z0 0 rfl
  refine g_iconst (v := (4 : Int32)) C dX11_turnOf_4 (by decide) ?_
  refine g_iald C dX11_turnOf_5 zz1 (vp_lit (by decide +kernel)) ?_
  refine g_aload_n C dX11_turnOf_6 rfl 0 rfl ?_
  refine g_getQ C dX11_turnOf_7 ft_363 z0 (hWF.q z0 0 rfl) ?_
  have zz2 := hWF.r z0 0 rfl
  refine g_iconst (v := (1 : Int32)) C dX11_turnOf_10 (by decide) ?_
  refine g_iald C dX11_turnOf_11 zz2 (vp_lit (by decide +kernel)) ?_
  refine g_irem C dX11_turnOf_12 hw.1 ?_
  have hw := hw.2
  refine g_istore_n (lv' := [(2, .int ((I (rq Q h0 0) (4 : Int32).toNatClampNeg) - (I (rq Q h0 0) (4 : Int32).toNatClampNeg) / (I (rq Q h0 0) (1 : Int32).toNatClampNeg) * (I (rq Q h0 0) (1 : Int32).toNatClampNeg))), (0, .ref (ad h0)), (1, .int x1)]) C dX11_turnOf_13 rfl (by decide) rfl ?_
  refine g_aload_n C dX11_turnOf_14 rfl 1 rfl ?_
  refine g_iload_n C dX11_turnOf_15 rfl 2 rfl ?_
  refine g_iconst (v := (1 : Int32)) C dX11_turnOf_16 (by decide) ?_
  refine g_iload_n C dX11_turnOf_17 rfl 0 rfl ?_
  refine g_ishl C dX11_turnOf_18 ?_
  refine g_callVi (As := [.int x1, .int ((1 : Int32) <<< (((I (rq Q h0 0) (4 : Int32).toNatClampNeg) - (I (rq Q h0 0) (4 : Int32).toNatClampNeg) / (I (rq Q h0 0) (1 : Int32).toNatClampNeg) * (I (rq Q h0 0) (1 : Int32).toNatClampNeg)) &&& 31))]) C dX11_turnOf_19 ft_387 z0 ft_391 ft_392 (met_X11_isKnown l hWF z0 hw) ⟨rfl, rfl, Nat.le_of_ble_eq_true rfl, Nat.le_of_ble_eq_true rfl⟩ ⟨Nat.zero_le _, Nat.zero_le _⟩ rfl rfl (Nat.le_of_ble_eq_true rfl) (fun r3 I3 J3 Q3 hp => ?_)
  obtain ⟨hw, eI, eJ, eQ, hWF⟩ := hp
  have eI : I = I3 := Eq.symm eI
  subst eI
  have eJ : J = J3 := Eq.symm eJ
  subst eJ
  have eQ : Q = Q3 := Eq.symm eQ
  subst eQ
  try dsimp only at hw hWF
  refine g_if_eq (tgt := 29) C dX11_turnOf_22 (by decide) (fun c4 => ?_) (fun c4 => ?_)
  · have hw := hw.1 c4
    refine g_bipush (v := (-4 : Int32)) C dX11_turnOf_29 (by decide) ?_
    exact g_iret C dX11_turnOf_31 hr ⟨hw, rfl, rfl, rfl, hWF⟩
  · have hw := hw.2 c4
    refine g_iload_n C dX11_turnOf_25 rfl 0 rfl ?_
    refine g_goto C dX11_turnOf_26 (tgt := 31) (by decide) ?_
    exact g_iret C dX11_turnOf_31 hr ⟨hw, rfl, rfl, rfl, hWF⟩
