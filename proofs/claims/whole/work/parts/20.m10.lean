def wp_X11_laysOdds_L34 (f0_3 : Nat) (f2_3 : Int32) (f4_3 : Int32) (k72 : KJ → Prop) : Nat → KJ → Int32 → Prop
  | 0, _, _ => False
  | n34 + 1, J_3, x5_3 => ((f4_3 ≤ x5_3 → k72 J_3) ∧ (¬ f4_3 ≤ x5_3 → wp_X11_has f2_3 x5_3 (fun r5 => ((r5 = 0 → wp_X11_laysOdds_L34 f0_3 f2_3 f4_3 k72 n34 (stj J_3 f0_3 18 ((J_3 f0_3 18) * (1 : Int64))) (x5_3 + (1 : Int32))) ∧ (¬ r5 = 0 → wp_X11_laysOdds_L34 f0_3 f2_3 f4_3 k72 n34 (stj J_3 f0_3 18 ((J_3 f0_3 18) * (10 : Int64))) (x5_3 + (1 : Int32)))))))
def wp_X11_laysOdds_L108 (f1_14 : Int32) (f2_14 : Int32) (f4_14 : Int32) (f5_14 : Int32) (k160 : Int64 → Prop) : Nat → Int64 → Int32 → Prop
  | 0, _, _ => False
  | n108 + 1, x6_14, x8_14 => ((f4_14 ≤ x8_14 → k160 x6_14) ∧ (¬ f4_14 ≤ x8_14 → wp_X11_has f2_14 x8_14 (fun r16 => ((¬ r16 = 0 → wp_X11_has f5_14 x8_14 (fun r18 => ((r18 = 0 → wp_X11_laysOdds_L108 f1_14 f2_14 f4_14 f5_14 k160 n108 (x6_14 * (f1_14.toInt64)) (x8_14 + (1 : Int32))) ∧ (¬ r18 = 0 → wp_X11_laysOdds_L108 f1_14 f2_14 f4_14 f5_14 k160 n108 (x6_14 * ((10 : Int64) - (f1_14.toInt64))) (x8_14 + (1 : Int32)))))) ∧ (r16 = 0 → wp_X11_laysOdds_L108 f1_14 f2_14 f4_14 f5_14 k160 n108 (x6_14 * (1 : Int64)) (x8_14 + (1 : Int32)))))))
def wp_X11_laysOdds_L75 (If_9 : KI) (Qf_9 : KQ) (f0_9 : Nat) (f1_9 : Int32) (f2_9 : Int32) (f4_9 : Int32) (k177 : KJ → Prop) : Nat → KJ → Int32 → Prop
  | 0, _, _ => False
  | n75 + 1, J_9, x5_9 => ((((1 : Int32) <<< (f4_9 &&& 31)) ≤ x5_9 → k177 J_9) ∧ (¬ ((1 : Int32) <<< (f4_9 &&& 31)) ≤ x5_9 → ((¬ (x5_9 &&& (f2_9 ^^^ (-1 : Int32))) = 0 → wp_X11_laysOdds_L75 If_9 Qf_9 f0_9 f1_9 f2_9 f4_9 k177 n75 J_9 (x5_9 + (1 : Int32))) ∧ ((x5_9 &&& (f2_9 ^^^ (-1 : Int32))) = 0 → wp_X11_areJoined If_9 Qf_9 f0_9 x5_9 (fun r12 => ((r12 = 0 → wp_X11_laysOdds_L75 If_9 Qf_9 f0_9 f1_9 f2_9 f4_9 k177 n75 J_9 (x5_9 + (1 : Int32))) ∧ (¬ r12 = 0 → (∃ q108, wp_X11_laysOdds_L108 f1_9 f2_9 f4_9 x5_9 (fun x6_21 => wp_X11_laysOdds_L75 If_9 Qf_9 f0_9 f1_9 f2_9 f4_9 k177 n75 (stj J_9 f0_9 17 ((J_9 f0_9 17) + x6_21)) (x5_9 + (1 : Int32))) q108 (1 : Int64) (0 : Int32)))))))))
def wp_X11_laysOdds_L189 (Jf_30 : KJ) (f0_30 : Nat) (post : KJ → Prop) : Nat → Int64 → Int64 → Prop
  | 0, _, _ => False
  | n189 + 1, x5_30, x7_30 => (((lg_cmp x7_30 (0 : Int64)) = 0 → (¬ x5_30 = 0 ∧ (¬ x5_30 = 0 ∧ post (stj (stj Jf_30 f0_30 17 ((Jf_30 f0_30 17) / x5_30)) f0_30 18 (((stj Jf_30 f0_30 17 ((Jf_30 f0_30 17) / x5_30)) f0_30 18) / x5_30))))) ∧ (¬ (lg_cmp x7_30 (0 : Int64)) = 0 → (¬ x7_30 = 0 ∧ wp_X11_laysOdds_L189 Jf_30 f0_30 post n189 x7_30 (x5_30 - x5_30 / x7_30 * x7_30))))
def wp_X11_laysOdds (I : KI) (J : KJ) (Q : KQ) (h0 : Nat) (x1 : Int32) (post : KJ → Prop) : Prop := wp_X11_present I Q h0 (fun r1 => (∃ q34, wp_X11_laysOdds_L34 h0 r1 (((I (rq Q h0 0) (0 : Int32).toNatClampNeg) * ((I (rq Q h0 0) (0 : Int32).toNatClampNeg) - (1 : Int32))) / (2 : Int32)) (fun J_8 => (∃ q75, wp_X11_laysOdds_L75 I Q h0 x1 r1 (((I (rq Q h0 0) (0 : Int32).toNatClampNeg) * ((I (rq Q h0 0) (0 : Int32).toNatClampNeg) - (1 : Int32))) / (2 : Int32)) (fun J_29 => (∃ q189, wp_X11_laysOdds_L189 J_29 h0 post q189 (J_29 h0 17) (J_29 h0 18))) q75 J_8 (0 : Int32))) q34 (stj (stj J h0 17 (0 : Int64)) h0 18 (1 : Int64)) (0 : Int32)))
set_option maxHeartbeats 4000000 in
set_option maxRecDepth 100000 in
theorem met_X11_laysOdds {Z : Nat → Prop} {A : Nat → Prop} {D : va_G} {D2 : Nat → ClassId} {ad : Nat → Nat} {N : Nat} {T : Nat → Nat × Nat} (l : Launch) {I : KI} {J : KJ} {Q : KQ} {h0 : Nat} {x1 : Int32} {post : KJ → Prop} (hWF : WF Z N T Q) (z0 : OKr Z N T h0 (11, 0)) (hw : wp_X11_laysOdds I J Q h0 x1 post) : Met l yX11_laysOdds (.code yX11_laysOdds cX11_laysOdds 11 none :: BIG) ({ frames := 3, cells := 0, slots := 0, locals := 72 }) (Pr D D2 A ad N T I J Q [.ref (ad h0), .int x1]) (va_Qv (fun (u : KS) => post u.2.1 ∧ u.1 = I ∧ u.2.2 = Q ∧ WF Z N T u.2.2) (Bw D D2 ad N T) A) 0 0 A := by
  refine Met_GG (lv0 := [(0, .ref (ad h0)), (1, .int x1)]) (by decide +kernel) [.ref (ad h0), .int x1] (Nat.le_of_ble_eq_true rfl) rfl ?_
  intro p e s m below meth c C hr
  have C : CX p s m [.ref (ad h0), .int x1].toArray meth c cX11_laysOdds 11 RX11 A D D2 := C
  unfold wp_X11_laysOdds at hw
  refine g_aload_n C dX11_laysOdds_0 rfl 0 rfl ?_
  refine g_callVi (As := []) C dX11_laysOdds_1 ft_350 z0 ft_389 ft_390 (met_X11_present l hWF z0 hw) ⟨rfl, rfl, Nat.le_of_ble_eq_true rfl, Nat.le_of_ble_eq_true rfl⟩ ⟨Nat.zero_le _, Nat.zero_le _⟩ rfl rfl (Nat.le_of_ble_eq_true rfl) (fun r1 I1 J1 Q1 hp => ?_)
  obtain ⟨hw, eI, eJ, eQ, hWF⟩ := hp
  have eI : I = I1 := Eq.symm eI
  subst eI
  have eJ : J = J1 := Eq.symm eJ
  subst eJ
  have eQ : Q = Q1 := Eq.symm eQ
  subst eQ
  try dsimp only at hw hWF
  refine g_istore_n (lv' := [(2, .int r1), (0, .ref (ad h0)), (1, .int x1)]) C dX11_laysOdds_4 rfl (by decide) rfl ?_
  refine g_aload_n C dX11_laysOdds_5 rfl 1 rfl ?_
  refine g_getQ C dX11_laysOdds_6 ft_326 z0 (hWF.q z0 0 rfl) ?_
  have zz2 := hWF.r z0 0 rfl
  refine g_iconst (v := (0 : Int32)) C dX11_laysOdds_9 (by decide) ?_
  refine g_iald C dX11_laysOdds_10 zz2 (by decide +kernel) ?_
  refine g_istore_n (lv' := [(3, .int (I (rq Q h0 0) (0 : Int32).toNatClampNeg)), (2, .int r1), (0, .ref (ad h0)), (1, .int x1)]) C dX11_laysOdds_11 rfl (by decide) rfl ?_
  refine g_iload_n C dX11_laysOdds_12 rfl 0 rfl ?_
  refine g_iload_n C dX11_laysOdds_13 rfl 0 rfl ?_
  refine g_iconst (v := (1 : Int32)) C dX11_laysOdds_14 (by decide) ?_
  refine g_isub C dX11_laysOdds_15 ?_
  refine g_imul C dX11_laysOdds_16 ?_
  refine g_iconst (v := (2 : Int32)) C dX11_laysOdds_17 (by decide) ?_
  refine g_idiv C dX11_laysOdds_18 (by decide) ?_
  refine g_istore (lv' := [(4, .int (((I (rq Q h0 0) (0 : Int32).toNatClampNeg) * ((I (rq Q h0 0) (0 : Int32).toNatClampNeg) - (1 : Int32))) / (2 : Int32))), (3, .int (I (rq Q h0 0) (0 : Int32).toNatClampNeg)), (2, .int r1), (0, .ref (ad h0)), (1, .int x1)]) C dX11_laysOdds_19 (by decide) rfl ?_
  refine g_aload_n C dX11_laysOdds_21 rfl 3 rfl ?_
  refine g_lconst (v := (0 : Int64)) C dX11_laysOdds_22 (by decide) ?_
  refine g_putJ C dX11_laysOdds_23 ft_422 z0 ?_
  refine g_aload_n C dX11_laysOdds_26 rfl 3 rfl ?_
  refine g_lconst (v := (1 : Int64)) C dX11_laysOdds_27 (by decide) ?_
  refine g_putJ C dX11_laysOdds_28 ft_423 z0 ?_
  refine g_iconst (v := (0 : Int32)) C dX11_laysOdds_31 (by decide) ?_
  refine g_istore (lv' := [(5, .int (0 : Int32)), (4, .int (((I (rq Q h0 0) (0 : Int32).toNatClampNeg) * ((I (rq Q h0 0) (0 : Int32).toNatClampNeg) - (1 : Int32))) / (2 : Int32))), (3, .int (I (rq Q h0 0) (0 : Int32).toNatClampNeg)), (2, .int r1), (0, .ref (ad h0)), (1, .int x1)]) C dX11_laysOdds_32 (by decide) rfl ?_
  have K72_u7 : ∀ (J_8 : KJ), ((∃ q75, wp_X11_laysOdds_L75 I Q h0 x1 r1 (((I (rq Q h0 0) (0 : Int32).toNatClampNeg) * ((I (rq Q h0 0) (0 : Int32).toNatClampNeg) - (1 : Int32))) / (2 : Int32)) (fun J_29 => (∃ q189, wp_X11_laysOdds_L189 J_29 h0 post q189 (J_29 h0 17) (J_29 h0 18))) q75 J_8 (0 : Int32))) → WF Z N T Q → GG p l e ({ frames := 3, cells := 0, slots := 0, locals := 72 }) s m [.ref (ad h0), .int x1].toArray below meth c 11 A D D2 0 0 (MQ below (va_Qv (fun (u : KS) => post u.2.1 ∧ u.1 = I ∧ u.2.2 = Q ∧ WF Z N T u.2.2) (Bw D D2 ad N T) A) [.ref (ad h0), .int x1].toArray s 0 0 A) ad N T I J_8 Q 72 [(0, .ref (ad h0)), (1, .int x1), (2, .int r1), (4, .int (((I (rq Q h0 0) (0 : Int32).toNatClampNeg) * ((I (rq Q h0 0) (0 : Int32).toNatClampNeg) - (1 : Int32))) / (2 : Int32)))] [] := by
    intro J_8 hw hWF
    refine g_iconst (v := (0 : Int32)) C dX11_laysOdds_72 (by decide) ?_
    refine g_istore (lv' := [(5, .int (0 : Int32)), (0, .ref (ad h0)), (1, .int x1), (2, .int r1), (4, .int (((I (rq Q h0 0) (0 : Int32).toNatClampNeg) * ((I (rq Q h0 0) (0 : Int32).toNatClampNeg) - (1 : Int32))) / (2 : Int32)))]) C dX11_laysOdds_73 (by decide) rfl ?_
    have K177_u28 : ∀ (J_29 : KJ), ((∃ q189, wp_X11_laysOdds_L189 J_29 h0 post q189 (J_29 h0 17) (J_29 h0 18))) → WF Z N T Q → GG p l e ({ frames := 3, cells := 0, slots := 0, locals := 72 }) s m [.ref (ad h0), .int x1].toArray below meth c 11 A D D2 0 0 (MQ below (va_Qv (fun (u : KS) => post u.2.1 ∧ u.1 = I ∧ u.2.2 = Q ∧ WF Z N T u.2.2) (Bw D D2 ad N T) A) [.ref (ad h0), .int x1].toArray s 0 0 A) ad N T I J_29 Q 177 [(0, .ref (ad h0))] [] := by
      intro J_29 hw hWF
      refine g_aload_n C dX11_laysOdds_177 rfl 0 rfl ?_
      refine g_getJ C dX11_laysOdds_178 ft_426 z0 ?_
      refine g_lstore (lv' := [(5, .long (J_29 h0 17)), (0, .ref (ad h0))]) C dX11_laysOdds_181 (by decide) rfl ?_
      refine g_aload_n C dX11_laysOdds_183 rfl 1 rfl ?_
      refine g_getJ C dX11_laysOdds_184 ft_424 z0 ?_
      refine g_lstore (lv' := [(7, .long (J_29 h0 18)), (5, .long (J_29 h0 17)), (0, .ref (ad h0))]) C dX11_laysOdds_187 (by decide) rfl ?_
      have L189_u32 : ∀ (n189 : Nat) (x5_30 : Int64) (x7_30 : Int64), wp_X11_laysOdds_L189 J_29 h0 post n189 x5_30 x7_30 → WF Z N T Q → GG p l e ({ frames := 3, cells := 0, slots := 0, locals := 72 }) s m [.ref (ad h0), .int x1].toArray below meth c 11 A D D2 0 0 (MQ below (va_Qv (fun (u : KS) => post u.2.1 ∧ u.1 = I ∧ u.2.2 = Q ∧ WF Z N T u.2.2) (Bw D D2 ad N T) A) [.ref (ad h0), .int x1].toArray s 0 0 A) ad N T I J_29 Q 189 [(0, .ref (ad h0)), (5, .long x5_30), (7, .long x7_30)] [] := by
        intro n189
        induction n189 with
        | zero => intro x5_30 x7_30 hw; exact hw.elim
        | succ n189 ih_u32 =>
          intro x5_30 x7_30 hw hWF
          unfold wp_X11_laysOdds_L189 at hw
          refine g_lload C dX11_laysOdds_189 2 rfl ?_
          refine g_lconst (v := (0 : Int64)) C dX11_laysOdds_191 (by decide) ?_
          refine g_lcmp C dX11_laysOdds_192 ?_
          refine g_if_eq (tgt := 214) C dX11_laysOdds_193 (by decide) (fun c34 => ?_) (fun c34 => ?_)
          · have hw := hw.1 c34
            refine g_aload_n C dX11_laysOdds_214 rfl 0 rfl ?_
            refine g_dup C dX11_laysOdds_215 rfl ?_
            refine g_getJ C dX11_laysOdds_216 ft_426 z0 ?_
            refine g_lload C dX11_laysOdds_219 1 rfl ?_
            refine g_ldiv C dX11_laysOdds_221 hw.1 ?_
            have hw := hw.2
            refine g_putJ C dX11_laysOdds_222 ft_422 z0 ?_
            refine g_aload_n C dX11_laysOdds_225 rfl 0 rfl ?_
            refine g_dup C dX11_laysOdds_226 rfl ?_
            refine g_getJ C dX11_laysOdds_227 ft_424 z0 ?_
            refine g_lload C dX11_laysOdds_230 1 rfl ?_
            refine g_ldiv C dX11_laysOdds_232 hw.1 ?_
            have hw := hw.2
            refine g_putJ C dX11_laysOdds_233 ft_423 z0 ?_
            exact g_vret C dX11_laysOdds_236 hr ⟨hw, rfl, rfl, hWF⟩
          · have hw := hw.2 c34
            refine g_lload C dX11_laysOdds_196 1 rfl ?_
            refine g_lload C dX11_laysOdds_198 2 rfl ?_
            refine g_lrem C dX11_laysOdds_200 hw.1 ?_
            have hw := hw.2
            refine g_lstore (lv' := [(9, .long (x5_30 - x5_30 / x7_30 * x7_30)), (0, .ref (ad h0)), (5, .long x5_30), (7, .long x7_30)]) C dX11_laysOdds_201 (by decide) rfl ?_
            refine g_lload C dX11_laysOdds_203 3 rfl ?_
            refine g_lstore (lv' := [(5, .long x7_30), (9, .long (x5_30 - x5_30 / x7_30 * x7_30)), (0, .ref (ad h0)), (7, .long x7_30)]) C dX11_laysOdds_205 (by decide) rfl ?_
            refine g_lload C dX11_laysOdds_207 1 rfl ?_
            refine g_lstore (lv' := [(7, .long (x5_30 - x5_30 / x7_30 * x7_30)), (5, .long x7_30), (9, .long (x5_30 - x5_30 / x7_30 * x7_30)), (0, .ref (ad h0))]) C dX11_laysOdds_209 (by decide) rfl ?_
            refine g_goto C dX11_laysOdds_211 (tgt := 189) (by decide) ?_
            refine g_sub [3, 1, 0] rfl ?_
            exact ih_u32 x7_30 (x5_30 - x5_30 / x7_30 * x7_30) hw hWF
      obtain ⟨n_u32, hw⟩ := hw
      refine g_sub [2, 1, 0] rfl ?_
      exact L189_u32 n_u32 (J_29 h0 17) (J_29 h0 18) hw hWF
    have L75_u28 : ∀ (n75 : Nat) (J_9 : KJ) (x5_9 : Int32), wp_X11_laysOdds_L75 I Q h0 x1 r1 (((I (rq Q h0 0) (0 : Int32).toNatClampNeg) * ((I (rq Q h0 0) (0 : Int32).toNatClampNeg) - (1 : Int32))) / (2 : Int32)) (fun J_29 => (∃ q189, wp_X11_laysOdds_L189 J_29 h0 post q189 (J_29 h0 17) (J_29 h0 18))) n75 J_9 x5_9 → WF Z N T Q → GG p l e ({ frames := 3, cells := 0, slots := 0, locals := 72 }) s m [.ref (ad h0), .int x1].toArray below meth c 11 A D D2 0 0 (MQ below (va_Qv (fun (u : KS) => post u.2.1 ∧ u.1 = I ∧ u.2.2 = Q ∧ WF Z N T u.2.2) (Bw D D2 ad N T) A) [.ref (ad h0), .int x1].toArray s 0 0 A) ad N T I J_9 Q 75 [(0, .ref (ad h0)), (1, .int x1), (2, .int r1), (4, .int (((I (rq Q h0 0) (0 : Int32).toNatClampNeg) * ((I (rq Q h0 0) (0 : Int32).toNatClampNeg) - (1 : Int32))) / (2 : Int32))), (5, .int x5_9)] [] := by
      intro n75
      induction n75 with
      | zero => intro J_9 x5_9 hw; exact hw.elim
      | succ n75 ih_u28 =>
        intro J_9 x5_9 hw hWF
        unfold wp_X11_laysOdds_L75 at hw
        refine g_iload C dX11_laysOdds_75 4 rfl ?_
        refine g_iconst (v := (1 : Int32)) C dX11_laysOdds_77 (by decide) ?_
        refine g_iload C dX11_laysOdds_78 3 rfl ?_
        refine g_ishl C dX11_laysOdds_80 ?_
        refine g_icmp_ge (tgt := 177) C dX11_laysOdds_81 (by decide) (fun c36 => ?_) (fun c36 => ?_)
        · have hw := hw.1 c36
          refine g_sub [0] rfl ?_
          exact K177_u28 J_9 hw hWF
        · have hw := hw.2 c36
          refine g_iload C dX11_laysOdds_84 4 rfl ?_
          refine g_iload_n C dX11_laysOdds_86 rfl 2 rfl ?_
          refine g_iconst (v := (-1 : Int32)) C dX11_laysOdds_87 (by decide) ?_
          refine g_ixor C dX11_laysOdds_88 ?_
          refine g_iand C dX11_laysOdds_89 ?_
          refine g_if_ne (tgt := 171) C dX11_laysOdds_90 (by decide) (fun c37 => ?_) (fun c37 => ?_)
          · have hw := hw.1 c37
            refine g_iinc (v := (x5_9 + (1 : Int32))) (lv' := [(5, .int (x5_9 + (1 : Int32))), (0, .ref (ad h0)), (1, .int x1), (2, .int r1), (4, .int (((I (rq Q h0 0) (0 : Int32).toNatClampNeg) * ((I (rq Q h0 0) (0 : Int32).toNatClampNeg) - (1 : Int32))) / (2 : Int32)))]) C dX11_laysOdds_171 (q := 4) rfl rfl (by decide) rfl ?_
            refine g_goto C dX11_laysOdds_174 (tgt := 75) (by decide) ?_
            refine g_sub [1, 2, 3, 4, 0] rfl ?_
            exact ih_u28 J_9 (x5_9 + (1 : Int32)) hw hWF
          · have hw := hw.2 c37
            refine g_aload_n C dX11_laysOdds_93 rfl 0 rfl ?_
            refine g_iload C dX11_laysOdds_94 4 rfl ?_
            refine g_callVi (As := [.int x5_9]) C dX11_laysOdds_96 ft_350 z0 ft_409 ft_410 (met_X11_areJoined l hWF z0 hw) ⟨rfl, rfl, Nat.le_of_ble_eq_true rfl, Nat.le_of_ble_eq_true rfl⟩ ⟨Nat.zero_le _, Nat.zero_le _⟩ rfl rfl (Nat.le_of_ble_eq_true rfl) (fun r38 I38 J38 Q38 hp => ?_)
            obtain ⟨hw, eI, eJ, eQ, hWF⟩ := hp
            have eI : I = I38 := Eq.symm eI
            subst eI
            have eJ : J_9 = J38 := Eq.symm eJ
            subst eJ
            have eQ : Q = Q38 := Eq.symm eQ
            subst eQ
            try dsimp only at hw hWF
            refine g_if_eq (tgt := 171) C dX11_laysOdds_99 (by decide) (fun c39 => ?_) (fun c39 => ?_)
            · have hw := hw.1 c39
              refine g_iinc (v := (x5_9 + (1 : Int32))) (lv' := [(5, .int (x5_9 + (1 : Int32))), (0, .ref (ad h0)), (1, .int x1), (2, .int r1), (4, .int (((I (rq Q h0 0) (0 : Int32).toNatClampNeg) * ((I (rq Q h0 0) (0 : Int32).toNatClampNeg) - (1 : Int32))) / (2 : Int32)))]) C dX11_laysOdds_171 (q := 4) rfl rfl (by decide) rfl ?_
              refine g_goto C dX11_laysOdds_174 (tgt := 75) (by decide) ?_
              refine g_sub [1, 2, 3, 4, 0] rfl ?_
              exact ih_u28 J_9 (x5_9 + (1 : Int32)) hw hWF
            · have hw := hw.2 c39
              refine g_lconst (v := (1 : Int64)) C dX11_laysOdds_102 (by decide) ?_
              refine g_lstore (lv' := [(6, .long (1 : Int64)), (0, .ref (ad h0)), (1, .int x1), (2, .int r1), (4, .int (((I (rq Q h0 0) (0 : Int32).toNatClampNeg) * ((I (rq Q h0 0) (0 : Int32).toNatClampNeg) - (1 : Int32))) / (2 : Int32))), (5, .int x5_9)]) C dX11_laysOdds_103 (by decide) rfl ?_
              refine g_iconst (v := (0 : Int32)) C dX11_laysOdds_105 (by decide) ?_
              refine g_istore (lv' := [(8, .int (0 : Int32)), (6, .long (1 : Int64)), (0, .ref (ad h0)), (1, .int x1), (2, .int r1), (4, .int (((I (rq Q h0 0) (0 : Int32).toNatClampNeg) * ((I (rq Q h0 0) (0 : Int32).toNatClampNeg) - (1 : Int32))) / (2 : Int32))), (5, .int x5_9)]) C dX11_laysOdds_106 (by decide) rfl ?_
              have K160_u41 : ∀ (x6_42 : Int64), (wp_X11_laysOdds_L75 I Q h0 x1 r1 (((I (rq Q h0 0) (0 : Int32).toNatClampNeg) * ((I (rq Q h0 0) (0 : Int32).toNatClampNeg) - (1 : Int32))) / (2 : Int32)) (fun J_29 => (∃ q189, wp_X11_laysOdds_L189 J_29 h0 post q189 (J_29 h0 17) (J_29 h0 18))) n75 (stj J_9 h0 17 ((J_9 h0 17) + x6_42)) (x5_9 + (1 : Int32))) → WF Z N T Q → GG p l e ({ frames := 3, cells := 0, slots := 0, locals := 72 }) s m [.ref (ad h0), .int x1].toArray below meth c 11 A D D2 0 0 (MQ below (va_Qv (fun (u : KS) => post u.2.1 ∧ u.1 = I ∧ u.2.2 = Q ∧ WF Z N T u.2.2) (Bw D D2 ad N T) A) [.ref (ad h0), .int x1].toArray s 0 0 A) ad N T I J_9 Q 160 [(0, .ref (ad h0)), (1, .int x1), (2, .int r1), (4, .int (((I (rq Q h0 0) (0 : Int32).toNatClampNeg) * ((I (rq Q h0 0) (0 : Int32).toNatClampNeg) - (1 : Int32))) / (2 : Int32))), (5, .int x5_9), (6, .long x6_42)] [] := by
                intro x6_42 hw hWF
                refine g_aload_n C dX11_laysOdds_160 rfl 0 rfl ?_
                refine g_dup C dX11_laysOdds_161 rfl ?_
                refine g_getJ C dX11_laysOdds_162 ft_426 z0 ?_
                refine g_lload C dX11_laysOdds_165 5 rfl ?_
                refine g_ladd C dX11_laysOdds_167 ?_
                refine g_putJ C dX11_laysOdds_168 ft_422 z0 ?_
                refine g_iinc (v := (x5_9 + (1 : Int32))) (lv' := [(5, .int (x5_9 + (1 : Int32))), (0, .ref (ad h0)), (1, .int x1), (2, .int r1), (4, .int (((I (rq Q h0 0) (0 : Int32).toNatClampNeg) * ((I (rq Q h0 0) (0 : Int32).toNatClampNeg) - (1 : Int32))) / (2 : Int32))), (6, .long x6_42)]) C dX11_laysOdds_171 (q := 4) rfl rfl (by decide) rfl ?_
                refine g_goto C dX11_laysOdds_174 (tgt := 75) (by decide) ?_
                refine g_sub [1, 2, 3, 4, 0] rfl ?_
                exact ih_u28 (stj J_9 h0 17 ((J_9 h0 17) + x6_42)) (x5_9 + (1 : Int32)) hw hWF
              have L108_u41 : ∀ (n108 : Nat) (x6_14 : Int64) (x8_14 : Int32), wp_X11_laysOdds_L108 x1 r1 (((I (rq Q h0 0) (0 : Int32).toNatClampNeg) * ((I (rq Q h0 0) (0 : Int32).toNatClampNeg) - (1 : Int32))) / (2 : Int32)) x5_9 (fun x6_42 => wp_X11_laysOdds_L75 I Q h0 x1 r1 (((I (rq Q h0 0) (0 : Int32).toNatClampNeg) * ((I (rq Q h0 0) (0 : Int32).toNatClampNeg) - (1 : Int32))) / (2 : Int32)) (fun J_29 => (∃ q189, wp_X11_laysOdds_L189 J_29 h0 post q189 (J_29 h0 17) (J_29 h0 18))) n75 (stj J_9 h0 17 ((J_9 h0 17) + x6_42)) (x5_9 + (1 : Int32))) n108 x6_14 x8_14 → WF Z N T Q → GG p l e ({ frames := 3, cells := 0, slots := 0, locals := 72 }) s m [.ref (ad h0), .int x1].toArray below meth c 11 A D D2 0 0 (MQ below (va_Qv (fun (u : KS) => post u.2.1 ∧ u.1 = I ∧ u.2.2 = Q ∧ WF Z N T u.2.2) (Bw D D2 ad N T) A) [.ref (ad h0), .int x1].toArray s 0 0 A) ad N T I J_9 Q 108 [(0, .ref (ad h0)), (1, .int x1), (2, .int r1), (4, .int (((I (rq Q h0 0) (0 : Int32).toNatClampNeg) * ((I (rq Q h0 0) (0 : Int32).toNatClampNeg) - (1 : Int32))) / (2 : Int32))), (5, .int x5_9), (6, .long x6_14), (8, .int x8_14)] [] := by
                intro n108
                induction n108 with
                | zero => intro x6_14 x8_14 hw; exact hw.elim
                | succ n108 ih_u41 =>
                  intro x6_14 x8_14 hw hWF
                  unfold wp_X11_laysOdds_L108 at hw
                  refine g_iload C dX11_laysOdds_108 6 rfl ?_
                  refine g_iload C dX11_laysOdds_110 3 rfl ?_
                  refine g_icmp_ge (tgt := 160) C dX11_laysOdds_112 (by decide) (fun c44 => ?_) (fun c44 => ?_)
                  · have hw := hw.1 c44
                    refine g_sub [0, 1, 2, 3, 4, 5] rfl ?_
                    exact K160_u41 x6_14 hw hWF
                  · have hw := hw.2 c44
                    refine g_lload C dX11_laysOdds_115 5 rfl ?_
                    refine g_iload_n C dX11_laysOdds_117 rfl 2 rfl ?_
                    refine g_iload C dX11_laysOdds_118 6 rfl ?_
                    refine g_callSi (As := [.int r1, .int x8_14]) C dX11_laysOdds_120 ft_344 ft_345 (met_X11_has l hWF  hw) ⟨rfl, rfl, Nat.le_of_ble_eq_true rfl, Nat.le_of_ble_eq_true rfl⟩ ⟨Nat.zero_le _, Nat.zero_le _⟩ rfl rfl (Nat.le_of_ble_eq_true rfl) (fun r45 I45 J45 Q45 hp => ?_)
                    obtain ⟨hw, eI, eJ, eQ, hWF⟩ := hp
                    have eI : I = I45 := Eq.symm eI
                    subst eI
                    have eJ : J_9 = J45 := Eq.symm eJ
                    subst eJ
                    have eQ : Q = Q45 := Eq.symm eQ
                    subst eQ
                    try dsimp only at hw hWF
                    refine g_if_ne (tgt := 130) C dX11_laysOdds_123 (by decide) (fun c46 => ?_) (fun c46 => ?_)
                    · have hw := hw.1 c46
                      refine g_iload C dX11_laysOdds_130 4 rfl ?_
                      refine g_iload C dX11_laysOdds_132 6 rfl ?_
                      refine g_callSi (As := [.int x5_9, .int x8_14]) C dX11_laysOdds_134 ft_344 ft_345 (met_X11_has l hWF  hw) ⟨rfl, rfl, Nat.le_of_ble_eq_true rfl, Nat.le_of_ble_eq_true rfl⟩ ⟨Nat.zero_le _, Nat.zero_le _⟩ rfl rfl (Nat.le_of_ble_eq_true rfl) (fun r47 I47 J47 Q47 hp => ?_)
                      obtain ⟨hw, eI, eJ, eQ, hWF⟩ := hp
                      have eI : I = I47 := Eq.symm eI
                      subst eI
                      have eJ : J_9 = J47 := Eq.symm eJ
                      subst eJ
                      have eQ : Q = Q47 := Eq.symm eQ
                      subst eQ
                      try dsimp only at hw hWF
                      refine g_if_eq (tgt := 149) C dX11_laysOdds_137 (by decide) (fun c48 => ?_) (fun c48 => ?_)
                      · have hw := hw.1 c48
                        refine g_iload_n C dX11_laysOdds_149 rfl 1 rfl ?_
                        refine g_i2l C dX11_laysOdds_150 ?_
                        refine g_lmul C dX11_laysOdds_151 ?_
                        refine g_lstore (lv' := [(6, .long (x6_14 * (x1.toInt64))), (0, .ref (ad h0)), (1, .int x1), (2, .int r1), (4, .int (((I (rq Q h0 0) (0 : Int32).toNatClampNeg) * ((I (rq Q h0 0) (0 : Int32).toNatClampNeg) - (1 : Int32))) / (2 : Int32))), (5, .int x5_9), (8, .int x8_14)]) C dX11_laysOdds_152 (by decide) rfl ?_
                        refine g_iinc (v := (x8_14 + (1 : Int32))) (lv' := [(8, .int (x8_14 + (1 : Int32))), (6, .long (x6_14 * (x1.toInt64))), (0, .ref (ad h0)), (1, .int x1), (2, .int r1), (4, .int (((I (rq Q h0 0) (0 : Int32).toNatClampNeg) * ((I (rq Q h0 0) (0 : Int32).toNatClampNeg) - (1 : Int32))) / (2 : Int32))), (5, .int x5_9)]) C dX11_laysOdds_154 (q := 6) rfl rfl (by decide) rfl ?_
                        refine g_goto C dX11_laysOdds_157 (tgt := 108) (by decide) ?_
                        refine g_sub [2, 3, 4, 5, 6, 1, 0] rfl ?_
                        exact ih_u41 (x6_14 * (x1.toInt64)) (x8_14 + (1 : Int32)) hw hWF
                      · have hw := hw.2 c48
                        refine g_ldc2 C dX11_laysOdds_140 ft_425 ?_
                        refine g_iload_n C dX11_laysOdds_143 rfl 1 rfl ?_
                        refine g_i2l C dX11_laysOdds_144 ?_
                        refine g_lsub C dX11_laysOdds_145 ?_
                        refine g_goto C dX11_laysOdds_146 (tgt := 151) (by decide) ?_
                        refine g_lmul C dX11_laysOdds_151 ?_
                        refine g_lstore (lv' := [(6, .long (x6_14 * ((10 : Int64) - (x1.toInt64)))), (0, .ref (ad h0)), (1, .int x1), (2, .int r1), (4, .int (((I (rq Q h0 0) (0 : Int32).toNatClampNeg) * ((I (rq Q h0 0) (0 : Int32).toNatClampNeg) - (1 : Int32))) / (2 : Int32))), (5, .int x5_9), (8, .int x8_14)]) C dX11_laysOdds_152 (by decide) rfl ?_
                        refine g_iinc (v := (x8_14 + (1 : Int32))) (lv' := [(8, .int (x8_14 + (1 : Int32))), (6, .long (x6_14 * ((10 : Int64) - (x1.toInt64)))), (0, .ref (ad h0)), (1, .int x1), (2, .int r1), (4, .int (((I (rq Q h0 0) (0 : Int32).toNatClampNeg) * ((I (rq Q h0 0) (0 : Int32).toNatClampNeg) - (1 : Int32))) / (2 : Int32))), (5, .int x5_9)]) C dX11_laysOdds_154 (q := 6) rfl rfl (by decide) rfl ?_
                        refine g_goto C dX11_laysOdds_157 (tgt := 108) (by decide) ?_
                        refine g_sub [2, 3, 4, 5, 6, 1, 0] rfl ?_
                        exact ih_u41 (x6_14 * ((10 : Int64) - (x1.toInt64))) (x8_14 + (1 : Int32)) hw hWF
                    · have hw := hw.2 c46
                      refine g_lconst (v := (1 : Int64)) C dX11_laysOdds_126 (by decide) ?_
                      refine g_goto C dX11_laysOdds_127 (tgt := 151) (by decide) ?_
                      refine g_lmul C dX11_laysOdds_151 ?_
                      refine g_lstore (lv' := [(6, .long (x6_14 * (1 : Int64))), (0, .ref (ad h0)), (1, .int x1), (2, .int r1), (4, .int (((I (rq Q h0 0) (0 : Int32).toNatClampNeg) * ((I (rq Q h0 0) (0 : Int32).toNatClampNeg) - (1 : Int32))) / (2 : Int32))), (5, .int x5_9), (8, .int x8_14)]) C dX11_laysOdds_152 (by decide) rfl ?_
                      refine g_iinc (v := (x8_14 + (1 : Int32))) (lv' := [(8, .int (x8_14 + (1 : Int32))), (6, .long (x6_14 * (1 : Int64))), (0, .ref (ad h0)), (1, .int x1), (2, .int r1), (4, .int (((I (rq Q h0 0) (0 : Int32).toNatClampNeg) * ((I (rq Q h0 0) (0 : Int32).toNatClampNeg) - (1 : Int32))) / (2 : Int32))), (5, .int x5_9)]) C dX11_laysOdds_154 (q := 6) rfl rfl (by decide) rfl ?_
                      refine g_goto C dX11_laysOdds_157 (tgt := 108) (by decide) ?_
                      refine g_sub [2, 3, 4, 5, 6, 1, 0] rfl ?_
                      exact ih_u41 (x6_14 * (1 : Int64)) (x8_14 + (1 : Int32)) hw hWF
              obtain ⟨n_u41, hw⟩ := hw
              refine g_sub [2, 3, 4, 5, 6, 1, 0] rfl ?_
              exact L108_u41 n_u41 (1 : Int64) (0 : Int32) hw hWF
    obtain ⟨n_u28, hw⟩ := hw
    refine g_sub [1, 2, 3, 4, 0] rfl ?_
    exact L75_u28 n_u28 J_8 (0 : Int32) hw hWF
  have L34_u7 : ∀ (n34 : Nat) (J_3 : KJ) (x5_3 : Int32), wp_X11_laysOdds_L34 h0 r1 (((I (rq Q h0 0) (0 : Int32).toNatClampNeg) * ((I (rq Q h0 0) (0 : Int32).toNatClampNeg) - (1 : Int32))) / (2 : Int32)) (fun J_8 => (∃ q75, wp_X11_laysOdds_L75 I Q h0 x1 r1 (((I (rq Q h0 0) (0 : Int32).toNatClampNeg) * ((I (rq Q h0 0) (0 : Int32).toNatClampNeg) - (1 : Int32))) / (2 : Int32)) (fun J_29 => (∃ q189, wp_X11_laysOdds_L189 J_29 h0 post q189 (J_29 h0 17) (J_29 h0 18))) q75 J_8 (0 : Int32))) n34 J_3 x5_3 → WF Z N T Q → GG p l e ({ frames := 3, cells := 0, slots := 0, locals := 72 }) s m [.ref (ad h0), .int x1].toArray below meth c 11 A D D2 0 0 (MQ below (va_Qv (fun (u : KS) => post u.2.1 ∧ u.1 = I ∧ u.2.2 = Q ∧ WF Z N T u.2.2) (Bw D D2 ad N T) A) [.ref (ad h0), .int x1].toArray s 0 0 A) ad N T I J_3 Q 34 [(0, .ref (ad h0)), (1, .int x1), (2, .int r1), (4, .int (((I (rq Q h0 0) (0 : Int32).toNatClampNeg) * ((I (rq Q h0 0) (0 : Int32).toNatClampNeg) - (1 : Int32))) / (2 : Int32))), (5, .int x5_3)] [] := by
    intro n34
    induction n34 with
    | zero => intro J_3 x5_3 hw; exact hw.elim
    | succ n34 ih_u7 =>
      intro J_3 x5_3 hw hWF
      unfold wp_X11_laysOdds_L34 at hw
      refine g_iload C dX11_laysOdds_34 4 rfl ?_
      refine g_iload C dX11_laysOdds_36 3 rfl ?_
      refine g_icmp_ge (tgt := 72) C dX11_laysOdds_38 (by decide) (fun c50 => ?_) (fun c50 => ?_)
      · have hw := hw.1 c50
        refine g_sub [0, 1, 2, 3] rfl ?_
        exact K72_u7 J_3 hw hWF
      · have hw := hw.2 c50
        refine g_aload_n C dX11_laysOdds_41 rfl 0 rfl ?_
        refine g_dup C dX11_laysOdds_42 rfl ?_
        refine g_getJ C dX11_laysOdds_43 ft_424 z0 ?_
        refine g_iload_n C dX11_laysOdds_46 rfl 2 rfl ?_
        refine g_iload C dX11_laysOdds_47 4 rfl ?_
        refine g_callSi (As := [.int r1, .int x5_3]) C dX11_laysOdds_49 ft_344 ft_345 (met_X11_has l hWF  hw) ⟨rfl, rfl, Nat.le_of_ble_eq_true rfl, Nat.le_of_ble_eq_true rfl⟩ ⟨Nat.zero_le _, Nat.zero_le _⟩ rfl rfl (Nat.le_of_ble_eq_true rfl) (fun r51 I51 J51 Q51 hp => ?_)
        obtain ⟨hw, eI, eJ, eQ, hWF⟩ := hp
        have eI : I = I51 := Eq.symm eI
        subst eI
        have eJ : J_3 = J51 := Eq.symm eJ
        subst eJ
        have eQ : Q = Q51 := Eq.symm eQ
        subst eQ
        try dsimp only at hw hWF
        refine g_if_eq (tgt := 61) C dX11_laysOdds_52 (by decide) (fun c52 => ?_) (fun c52 => ?_)
        · have hw := hw.1 c52
          refine g_lconst (v := (1 : Int64)) C dX11_laysOdds_61 (by decide) ?_
          refine g_lmul C dX11_laysOdds_62 ?_
          refine g_putJ C dX11_laysOdds_63 ft_423 z0 ?_
          refine g_iinc (v := (x5_3 + (1 : Int32))) (lv' := [(5, .int (x5_3 + (1 : Int32))), (0, .ref (ad h0)), (1, .int x1), (2, .int r1), (4, .int (((I (rq Q h0 0) (0 : Int32).toNatClampNeg) * ((I (rq Q h0 0) (0 : Int32).toNatClampNeg) - (1 : Int32))) / (2 : Int32)))]) C dX11_laysOdds_66 (q := 4) rfl rfl (by decide) rfl ?_
          refine g_goto C dX11_laysOdds_69 (tgt := 34) (by decide) ?_
          refine g_sub [1, 2, 3, 4, 0] rfl ?_
          exact ih_u7 (stj J_3 h0 18 ((J_3 h0 18) * (1 : Int64))) (x5_3 + (1 : Int32)) hw hWF
        · have hw := hw.2 c52
          refine g_ldc2 C dX11_laysOdds_55 ft_425 ?_
          refine g_goto C dX11_laysOdds_58 (tgt := 62) (by decide) ?_
          refine g_lmul C dX11_laysOdds_62 ?_
          refine g_putJ C dX11_laysOdds_63 ft_423 z0 ?_
          refine g_iinc (v := (x5_3 + (1 : Int32))) (lv' := [(5, .int (x5_3 + (1 : Int32))), (0, .ref (ad h0)), (1, .int x1), (2, .int r1), (4, .int (((I (rq Q h0 0) (0 : Int32).toNatClampNeg) * ((I (rq Q h0 0) (0 : Int32).toNatClampNeg) - (1 : Int32))) / (2 : Int32)))]) C dX11_laysOdds_66 (q := 4) rfl rfl (by decide) rfl ?_
          refine g_goto C dX11_laysOdds_69 (tgt := 34) (by decide) ?_
          refine g_sub [1, 2, 3, 4, 0] rfl ?_
          exact ih_u7 (stj J_3 h0 18 ((J_3 h0 18) * (10 : Int64))) (x5_3 + (1 : Int32)) hw hWF
  obtain ⟨n_u7, hw⟩ := hw
  refine g_sub [4, 5, 3, 1, 0] rfl ?_
  exact L34_u7 n_u7 (stj (stj J h0 17 (0 : Int64)) h0 18 (1 : Int64)) (0 : Int32) hw hWF
def wp_X11_joined (I : KI) (J : KJ) (Q : KQ) (h0 : Nat) (x1 : Int32) (x2 : Int32) (post : Int64 → KJ → Prop) : Prop := wp_X11_in (x1.toInt64) (0 : Int64) (10 : Int64) (fun r1 => ((r1 = 0 → post (-1 : Int64) J) ∧ (¬ r1 = 0 → wp_X11_in (x2.toInt64) (0 : Int64) (1 : Int64) (fun r3 => ((¬ r3 = 0 → wp_X11_laysOdds I J Q h0 x1 (fun J5 => ((¬ x2 = 0 → post (J5 h0 18) J5) ∧ (x2 = 0 → post (J5 h0 17) J5)))) ∧ (r3 = 0 → post (-1 : Int64) J))))))
set_option maxHeartbeats 4000000 in
set_option maxRecDepth 100000 in
theorem met_X11_joined {Z : Nat → Prop} {A : Nat → Prop} {D : va_G} {D2 : Nat → ClassId} {ad : Nat → Nat} {N : Nat} {T : Nat → Nat × Nat} (l : Launch) {I : KI} {J : KJ} {Q : KQ} {h0 : Nat} {x1 : Int32} {x2 : Int32} {post : Int64 → KJ → Prop} (hWF : WF Z N T Q) (z0 : OKr Z N T h0 (11, 0)) (hw : wp_X11_joined I J Q h0 x1 x2 post) : Met l yX11_joined (.code yX11_joined cX11_joined 3 (some .long) :: BIG) ({ frames := 4, cells := 0, slots := 0, locals := 102 }) (Pr D D2 A ad N T I J Q [.ref (ad h0), .int x1, .int x2]) (va_Ql (fun (r : Int64) (u : KS) => post r u.2.1 ∧ u.1 = I ∧ u.2.2 = Q ∧ WF Z N T u.2.2) (Bw D D2 ad N T) A) 0 0 A := by
  refine Met_GG (lv0 := [(0, .ref (ad h0)), (1, .int x1), (2, .int x2)]) (by decide +kernel) [.ref (ad h0), .int x1, .int x2] (Nat.le_of_ble_eq_true rfl) rfl ?_
  intro p e s m below meth c C hr
  have C : CX p s m [.ref (ad h0), .int x1, .int x2].toArray meth c cX11_joined 3 RX11 A D D2 := C
  unfold wp_X11_joined at hw
  refine g_iload_n C dX11_joined_0 rfl 1 rfl ?_
  refine g_i2l C dX11_joined_1 ?_
  refine g_lconst (v := (0 : Int64)) C dX11_joined_2 (by decide) ?_
  refine g_ldc2 C dX11_joined_3 ft_425 ?_
  refine g_callSi (As := [.long (x1.toInt64), .long (0 : Int64), .long (10 : Int64)]) C dX11_joined_6 ft_360 ft_361 (met_X11_in l hWF  hw) ⟨rfl, rfl, Nat.le_of_ble_eq_true rfl, Nat.le_of_ble_eq_true rfl⟩ ⟨Nat.zero_le _, Nat.zero_le _⟩ rfl rfl (Nat.le_of_ble_eq_true rfl) (fun r1 I1 J1 Q1 hp => ?_)
  obtain ⟨hw, eI, eJ, eQ, hWF⟩ := hp
  have eI : I = I1 := Eq.symm eI
  subst eI
  have eJ : J = J1 := Eq.symm eJ
  subst eJ
  have eQ : Q = Q1 := Eq.symm eQ
  subst eQ
  try dsimp only at hw hWF
  refine g_if_eq (tgt := 22) C dX11_joined_9 (by decide) (fun c2 => ?_) (fun c2 => ?_)
  · have hw := hw.1 c2
    refine g_ldc2 C dX11_joined_22 ft_427 ?_
    exact g_lret C dX11_joined_25 hr ⟨hw, rfl, rfl, hWF⟩
  · have hw := hw.2 c2
    refine g_iload_n C dX11_joined_12 rfl 2 rfl ?_
    refine g_i2l C dX11_joined_13 ?_
    refine g_lconst (v := (0 : Int64)) C dX11_joined_14 (by decide) ?_
    refine g_lconst (v := (1 : Int64)) C dX11_joined_15 (by decide) ?_
    refine g_callSi (As := [.long (x2.toInt64), .long (0 : Int64), .long (1 : Int64)]) C dX11_joined_16 ft_360 ft_361 (met_X11_in l hWF  hw) ⟨rfl, rfl, Nat.le_of_ble_eq_true rfl, Nat.le_of_ble_eq_true rfl⟩ ⟨Nat.zero_le _, Nat.zero_le _⟩ rfl rfl (Nat.le_of_ble_eq_true rfl) (fun r3 I3 J3 Q3 hp => ?_)
    obtain ⟨hw, eI, eJ, eQ, hWF⟩ := hp
    have eI : I = I3 := Eq.symm eI
    subst eI
    have eJ : J = J3 := Eq.symm eJ
    subst eJ
    have eQ : Q = Q3 := Eq.symm eQ
    subst eQ
    try dsimp only at hw hWF
    refine g_if_ne (tgt := 26) C dX11_joined_19 (by decide) (fun c4 => ?_) (fun c4 => ?_)
    · have hw := hw.1 c4
      refine g_aload_n C dX11_joined_26 rfl 0 rfl ?_
      refine g_iload_n C dX11_joined_27 rfl 1 rfl ?_
      refine g_callVv (As := [.int x1]) C dX11_joined_28 ft_350 z0 ft_428 ft_429 (met_X11_laysOdds l hWF z0 hw) ⟨rfl, rfl, Nat.le_of_ble_eq_true rfl, Nat.le_of_ble_eq_true rfl⟩ ⟨Nat.zero_le _, Nat.zero_le _⟩ rfl rfl (Nat.le_of_ble_eq_true rfl) (fun I5 J5 Q5 hp => ?_)
      obtain ⟨hw, eI, eQ, hWF⟩ := hp
      have eI : I = I5 := Eq.symm eI
      subst eI
      have eQ : Q = Q5 := Eq.symm eQ
      subst eQ
      try dsimp only at hw hWF
      refine g_iload_n C dX11_joined_31 rfl 2 rfl ?_
      refine g_if_ne (tgt := 42) C dX11_joined_32 (by decide) (fun c6 => ?_) (fun c6 => ?_)
      · have hw := hw.1 c6
        refine g_aload_n C dX11_joined_42 rfl 0 rfl ?_
        refine g_getJ C dX11_joined_43 ft_424 z0 ?_
        exact g_lret C dX11_joined_46 hr ⟨hw, rfl, rfl, hWF⟩
      · have hw := hw.2 c6
        refine g_aload_n C dX11_joined_35 rfl 0 rfl ?_
        refine g_getJ C dX11_joined_36 ft_426 z0 ?_
        refine g_goto C dX11_joined_39 (tgt := 46) (by decide) ?_
        exact g_lret C dX11_joined_46 hr ⟨hw, rfl, rfl, hWF⟩
    · have hw := hw.2 c4
      refine g_ldc2 C dX11_joined_22 ft_427 ?_
      exact g_lret C dX11_joined_25 hr ⟨hw, rfl, rfl, hWF⟩
def wp_X11_tell (I : KI) (Q : KQ) (h0 : Nat) (x1 : Int32) (x2 : Int32) (post : Int32 → KI → Prop) : Prop := ((¬ x1 = 0 → ((¬ x1 = (1 : Int32) → ((¬ x1 = (2 : Int32) → ((¬ x1 = (3 : Int32) → post (-1 : Int32) I) ∧ (x1 = (3 : Int32) → wp_X11_in (x2.toInt64) (1 : Int64) (9 : Int64) (fun r6 => ((r6 = 0 → post (-1 : Int32) I) ∧ (¬ r6 = 0 → (vp_in x1 69 ∧ ((¬ (I (rq Q h0 0) x1.toNatClampNeg) = x2 → wp_X11_remembers I Q h0 (fun I12 => (vp_in x1 69 ∧ (((2 : Int32) ≤ x1 → ((¬ x1 = 0 → post (I (rq Q h0 0) x1.toNatClampNeg) (sti I12 (rq Q h0 0) x1.toNatClampNeg x2)) ∧ (x1 = 0 → wp_X11_laysPath (sti I12 (rq Q h0 0) x1.toNatClampNeg x2) Q h0 (fun I16 => post (I (rq Q h0 0) x1.toNatClampNeg) I16)))) ∧ (¬ (2 : Int32) ≤ x1 → wp_X11_forgets (sti I12 (rq Q h0 0) x1.toNatClampNeg x2) Q h0 (fun I17 => ((¬ x1 = 0 → post (I (rq Q h0 0) x1.toNatClampNeg) I17) ∧ (x1 = 0 → wp_X11_laysPath I17 Q h0 (fun I19 => post (I (rq Q h0 0) x1.toNatClampNeg) I19))))))))) ∧ ((I (rq Q h0 0) x1.toNatClampNeg) = x2 → post (-2 : Int32) I))))))))) ∧ (x1 = (2 : Int32) → wp_X11_in (x2.toInt64) (0 : Int64) (3 : Int64) (fun r20 => ((¬ r20 = 0 → (vp_in x1 69 ∧ ((¬ (I (rq Q h0 0) x1.toNatClampNeg) = x2 → wp_X11_remembers I Q h0 (fun I24 => (vp_in x1 69 ∧ (((2 : Int32) ≤ x1 → ((¬ x1 = 0 → post (I (rq Q h0 0) x1.toNatClampNeg) (sti I24 (rq Q h0 0) x1.toNatClampNeg x2)) ∧ (x1 = 0 → wp_X11_laysPath (sti I24 (rq Q h0 0) x1.toNatClampNeg x2) Q h0 (fun I28 => post (I (rq Q h0 0) x1.toNatClampNeg) I28)))) ∧ (¬ (2 : Int32) ≤ x1 → wp_X11_forgets (sti I24 (rq Q h0 0) x1.toNatClampNeg x2) Q h0 (fun I29 => ((¬ x1 = 0 → post (I (rq Q h0 0) x1.toNatClampNeg) I29) ∧ (x1 = 0 → wp_X11_laysPath I29 Q h0 (fun I31 => post (I (rq Q h0 0) x1.toNatClampNeg) I31))))))))) ∧ ((I (rq Q h0 0) x1.toNatClampNeg) = x2 → post (-2 : Int32) I)))) ∧ (r20 = 0 → post (-1 : Int32) I)))))) ∧ (x1 = (1 : Int32) → wp_X11_in (x2.toInt64) (1 : Int64) (8 : Int64) (fun r32 => ((¬ r32 = 0 → (vp_in x1 69 ∧ ((¬ (I (rq Q h0 0) x1.toNatClampNeg) = x2 → wp_X11_remembers I Q h0 (fun I36 => (vp_in x1 69 ∧ (((2 : Int32) ≤ x1 → ((¬ x1 = 0 → post (I (rq Q h0 0) x1.toNatClampNeg) (sti I36 (rq Q h0 0) x1.toNatClampNeg x2)) ∧ (x1 = 0 → wp_X11_laysPath (sti I36 (rq Q h0 0) x1.toNatClampNeg x2) Q h0 (fun I40 => post (I (rq Q h0 0) x1.toNatClampNeg) I40)))) ∧ (¬ (2 : Int32) ≤ x1 → wp_X11_forgets (sti I36 (rq Q h0 0) x1.toNatClampNeg x2) Q h0 (fun I41 => ((¬ x1 = 0 → post (I (rq Q h0 0) x1.toNatClampNeg) I41) ∧ (x1 = 0 → wp_X11_laysPath I41 Q h0 (fun I43 => post (I (rq Q h0 0) x1.toNatClampNeg) I43))))))))) ∧ ((I (rq Q h0 0) x1.toNatClampNeg) = x2 → post (-2 : Int32) I)))) ∧ (r32 = 0 → post (-1 : Int32) I)))))) ∧ (x1 = 0 → wp_X11_in (x2.toInt64) (2 : Int64) (6 : Int64) (fun r44 => ((¬ r44 = 0 → (vp_in x1 69 ∧ ((¬ (I (rq Q h0 0) x1.toNatClampNeg) = x2 → wp_X11_remembers I Q h0 (fun I48 => (vp_in x1 69 ∧ (((2 : Int32) ≤ x1 → ((¬ x1 = 0 → post (I (rq Q h0 0) x1.toNatClampNeg) (sti I48 (rq Q h0 0) x1.toNatClampNeg x2)) ∧ (x1 = 0 → wp_X11_laysPath (sti I48 (rq Q h0 0) x1.toNatClampNeg x2) Q h0 (fun I52 => post (I (rq Q h0 0) x1.toNatClampNeg) I52)))) ∧ (¬ (2 : Int32) ≤ x1 → wp_X11_forgets (sti I48 (rq Q h0 0) x1.toNatClampNeg x2) Q h0 (fun I53 => ((¬ x1 = 0 → post (I (rq Q h0 0) x1.toNatClampNeg) I53) ∧ (x1 = 0 → wp_X11_laysPath I53 Q h0 (fun I55 => post (I (rq Q h0 0) x1.toNatClampNeg) I55))))))))) ∧ ((I (rq Q h0 0) x1.toNatClampNeg) = x2 → post (-2 : Int32) I)))) ∧ (r44 = 0 → post (-1 : Int32) I)))))
set_option maxHeartbeats 4000000 in
set_option maxRecDepth 100000 in
theorem met_X11_tell {Z : Nat → Prop} {A : Nat → Prop} {D : va_G} {D2 : Nat → ClassId} {ad : Nat → Nat} {N : Nat} {T : Nat → Nat × Nat} (l : Launch) {I : KI} {J : KJ} {Q : KQ} {h0 : Nat} {x1 : Int32} {x2 : Int32} {post : Int32 → KI → Prop} (hWF : WF Z N T Q) (z0 : OKr Z N T h0 (11, 0)) (hw : wp_X11_tell I Q h0 x1 x2 post) : Met l yX11_tell (.code yX11_tell cX11_tell 5 (some .int) :: BIG) ({ frames := 2, cells := 0, slots := 0, locals := 45 }) (Pr D D2 A ad N T I J Q [.ref (ad h0), .int x1, .int x2]) (va_Qi (fun (r : Int32) (u : KS) => post r u.1 ∧ u.2.1 = J ∧ u.2.2 = Q ∧ WF Z N T u.2.2) (Bw D D2 ad N T) A) 0 0 A := by
  refine Met_GG (lv0 := [(0, .ref (ad h0)), (1, .int x1), (2, .int x2)]) (by decide +kernel) [.ref (ad h0), .int x1, .int x2] (Nat.le_of_ble_eq_true rfl) rfl ?_
  intro p e s m below meth c C hr
  have C : CX p s m [.ref (ad h0), .int x1, .int x2].toArray meth c cX11_tell 5 RX11 A D D2 := C
  unfold wp_X11_tell at hw
  refine g_iload_n C dX11_tell_0 rfl 1 rfl ?_
  refine g_if_ne (tgt := 18) C dX11_tell_1 (by decide) (fun c1 => ?_) (fun c1 => ?_)
  · have hw := hw.1 c1
    refine g_iload_n C dX11_tell_18 rfl 1 rfl ?_
    refine g_iconst (v := (1 : Int32)) C dX11_tell_19 (by decide) ?_
    refine g_icmp_ne (tgt := 35) C dX11_tell_20 (by decide) (fun c2 => ?_) (fun c2 => ?_)
    · have hw := hw.1 c2
      refine g_iload_n C dX11_tell_35 rfl 1 rfl ?_
      refine g_iconst (v := (2 : Int32)) C dX11_tell_36 (by decide) ?_
      refine g_icmp_ne (tgt := 52) C dX11_tell_37 (by decide) (fun c3 => ?_) (fun c3 => ?_)
      · have hw := hw.1 c3
        refine g_iload_n C dX11_tell_52 rfl 1 rfl ?_
        refine g_iconst (v := (3 : Int32)) C dX11_tell_53 (by decide) ?_
        refine g_icmp_ne (tgt := 73) C dX11_tell_54 (by decide) (fun c4 => ?_) (fun c4 => ?_)
        · have hw := hw.1 c4
          refine g_iconst (v := (0 : Int32)) C dX11_tell_73 (by decide) ?_
          refine g_istore_n (lv' := [(3, .int (0 : Int32)), (0, .ref (ad h0)), (1, .int x1), (2, .int x2)]) C dX11_tell_74 rfl (by decide) rfl ?_
          refine g_iload_n C dX11_tell_75 rfl 0 rfl ?_
          refine g_if_ne (tgt := 81) C dX11_tell_76 (by decide) (fun c5 => absurd c5 (by decide)) (fun _ => ?_)
          refine g_iconst (v := (-1 : Int32)) C dX11_tell_79 (by decide) ?_
          exact g_iret C dX11_tell_80 hr ⟨hw, rfl, rfl, hWF⟩
        · have hw := hw.2 c4
          refine g_iload_n C dX11_tell_57 rfl 2 rfl ?_
          refine g_i2l C dX11_tell_58 ?_
          refine g_lconst (v := (1 : Int64)) C dX11_tell_59 (by decide) ?_
          refine g_ldc2 C dX11_tell_60 ft_419 ?_
          refine g_callSi (As := [.long (x2.toInt64), .long (1 : Int64), .long (9 : Int64)]) C dX11_tell_63 ft_360 ft_361 (met_X11_in l hWF  hw) ⟨rfl, rfl, Nat.le_of_ble_eq_true rfl, Nat.le_of_ble_eq_true rfl⟩ ⟨Nat.zero_le _, Nat.zero_le _⟩ rfl rfl (Nat.le_of_ble_eq_true rfl) (fun r6 I6 J6 Q6 hp => ?_)
          obtain ⟨hw, eI, eJ, eQ, hWF⟩ := hp
          have eI : I = I6 := Eq.symm eI
          subst eI
          have eJ : J = J6 := Eq.symm eJ
          subst eJ
          have eQ : Q = Q6 := Eq.symm eQ
          subst eQ
          try dsimp only at hw hWF
          refine g_if_eq (tgt := 73) C dX11_tell_66 (by decide) (fun c7 => ?_) (fun c7 => ?_)
          · have hw := hw.1 c7
            refine g_iconst (v := (0 : Int32)) C dX11_tell_73 (by decide) ?_
            refine g_istore_n (lv' := [(3, .int (0 : Int32)), (0, .ref (ad h0)), (1, .int x1), (2, .int x2)]) C dX11_tell_74 rfl (by decide) rfl ?_
            refine g_iload_n C dX11_tell_75 rfl 0 rfl ?_
            refine g_if_ne (tgt := 81) C dX11_tell_76 (by decide) (fun c8 => absurd c8 (by decide)) (fun _ => ?_)
            refine g_iconst (v := (-1 : Int32)) C dX11_tell_79 (by decide) ?_
            exact g_iret C dX11_tell_80 hr ⟨hw, rfl, rfl, hWF⟩
          · have hw := hw.2 c7
            refine g_iconst (v := (1 : Int32)) C dX11_tell_69 (by decide) ?_
            refine g_goto C dX11_tell_70 (tgt := 74) (by decide) ?_
            refine g_istore_n (lv' := [(3, .int (1 : Int32)), (0, .ref (ad h0)), (1, .int x1), (2, .int x2)]) C dX11_tell_74 rfl (by decide) rfl ?_
            refine g_iload_n C dX11_tell_75 rfl 0 rfl ?_
            refine g_if_ne (tgt := 81) C dX11_tell_76 (by decide) (fun _ => ?_) (fun c9 => absurd c9 (by decide))
            refine g_aload_n C dX11_tell_81 rfl 1 rfl ?_
            refine g_getQ C dX11_tell_82 ft_326 z0 (hWF.q z0 0 rfl) ?_
            have zz10 := hWF.r z0 0 rfl
            refine g_iload_n C dX11_tell_85 rfl 2 rfl ?_
            refine g_iald C dX11_tell_86 zz10 hw.1 ?_
            have hw := hw.2
            refine g_istore (lv' := [(4, .int (I (rq Q h0 0) x1.toNatClampNeg)), (3, .int (1 : Int32)), (0, .ref (ad h0)), (1, .int x1), (2, .int x2)]) C dX11_tell_87 (by decide) rfl ?_
            refine g_iload C dX11_tell_89 0 rfl ?_
            refine g_iload_n C dX11_tell_91 rfl 4 rfl ?_
            refine g_icmp_ne (tgt := 98) C dX11_tell_92 (by decide) (fun c11 => ?_) (fun c11 => ?_)
            · have hw := hw.1 c11
              refine g_aload_n C dX11_tell_98 rfl 2 rfl ?_
              refine g_callVv (As := []) C dX11_tell_99 ft_350 z0 ft_393 ft_394 (met_X11_remembers l hWF z0 hw) ⟨rfl, rfl, Nat.le_of_ble_eq_true rfl, Nat.le_of_ble_eq_true rfl⟩ ⟨Nat.zero_le _, Nat.zero_le _⟩ rfl rfl (Nat.le_of_ble_eq_true rfl) (fun I12 J12 Q12 hp => ?_)
              obtain ⟨hw, eJ, eQ, hWF⟩ := hp
              have eJ : J = J12 := Eq.symm eJ
              subst eJ
              have eQ : Q = Q12 := Eq.symm eQ
              subst eQ
              try dsimp only at hw hWF
              refine g_aload_n C dX11_tell_102 rfl 2 rfl ?_
              refine g_getQ C dX11_tell_103 ft_326 z0 (hWF.q z0 0 rfl) ?_
              have zz13 := hWF.r z0 0 rfl
              refine g_iload_n C dX11_tell_106 rfl 3 rfl ?_
              refine g_iload_n C dX11_tell_107 rfl 4 rfl ?_
              refine g_iast C dX11_tell_108 zz13 hw.1 ?_
              have hw := hw.2
              refine g_iload_n C dX11_tell_109 rfl 3 rfl ?_
              refine g_iconst (v := (2 : Int32)) C dX11_tell_110 (by decide) ?_
              refine g_icmp_ge (tgt := 118) C dX11_tell_111 (by decide) (fun c14 => ?_) (fun c14 => ?_)
              · have hw := hw.1 c14
                refine g_iload_n C dX11_tell_118 rfl 3 rfl ?_
                refine g_if_ne (tgt := 126) C dX11_tell_119 (by decide) (fun c15 => ?_) (fun c15 => ?_)
                · have hw := hw.1 c15
                  refine g_iload C dX11_tell_126 0 rfl ?_
                  exact g_iret C dX11_tell_128 hr ⟨hw, rfl, rfl, hWF⟩
                · have hw := hw.2 c15
                  refine g_aload_n C dX11_tell_122 rfl 2 rfl ?_
                  refine g_callVv (As := []) C dX11_tell_123 ft_350 z0 ft_430 ft_431 (met_X11_laysPath l hWF z0 hw) ⟨rfl, rfl, Nat.le_of_ble_eq_true rfl, Nat.le_of_ble_eq_true rfl⟩ ⟨Nat.zero_le _, Nat.zero_le _⟩ rfl rfl (Nat.le_of_ble_eq_true rfl) (fun I16 J16 Q16 hp => ?_)
                  obtain ⟨hw, eJ, eQ, hWF⟩ := hp
                  have eJ : J = J16 := Eq.symm eJ
                  subst eJ
                  have eQ : Q = Q16 := Eq.symm eQ
                  subst eQ
                  try dsimp only at hw hWF
                  refine g_iload C dX11_tell_126 0 rfl ?_
                  exact g_iret C dX11_tell_128 hr ⟨hw, rfl, rfl, hWF⟩
              · have hw := hw.2 c14
                refine g_aload_n C dX11_tell_114 rfl 2 rfl ?_
                refine g_callVv (As := []) C dX11_tell_115 ft_350 z0 ft_432 ft_433 (met_X11_forgets l hWF z0 hw) ⟨rfl, rfl, Nat.le_of_ble_eq_true rfl, Nat.le_of_ble_eq_true rfl⟩ ⟨Nat.zero_le _, Nat.zero_le _⟩ rfl rfl (Nat.le_of_ble_eq_true rfl) (fun I17 J17 Q17 hp => ?_)
                obtain ⟨hw, eJ, eQ, hWF⟩ := hp
                have eJ : J = J17 := Eq.symm eJ
                subst eJ
                have eQ : Q = Q17 := Eq.symm eQ
                subst eQ
                try dsimp only at hw hWF
                refine g_iload_n C dX11_tell_118 rfl 3 rfl ?_
                refine g_if_ne (tgt := 126) C dX11_tell_119 (by decide) (fun c18 => ?_) (fun c18 => ?_)
                · have hw := hw.1 c18
                  refine g_iload C dX11_tell_126 0 rfl ?_
                  exact g_iret C dX11_tell_128 hr ⟨hw, rfl, rfl, hWF⟩
                · have hw := hw.2 c18
                  refine g_aload_n C dX11_tell_122 rfl 2 rfl ?_
                  refine g_callVv (As := []) C dX11_tell_123 ft_350 z0 ft_430 ft_431 (met_X11_laysPath l hWF z0 hw) ⟨rfl, rfl, Nat.le_of_ble_eq_true rfl, Nat.le_of_ble_eq_true rfl⟩ ⟨Nat.zero_le _, Nat.zero_le _⟩ rfl rfl (Nat.le_of_ble_eq_true rfl) (fun I19 J19 Q19 hp => ?_)
                  obtain ⟨hw, eJ, eQ, hWF⟩ := hp
                  have eJ : J = J19 := Eq.symm eJ
                  subst eJ
                  have eQ : Q = Q19 := Eq.symm eQ
                  subst eQ
                  try dsimp only at hw hWF
                  refine g_iload C dX11_tell_126 0 rfl ?_
                  exact g_iret C dX11_tell_128 hr ⟨hw, rfl, rfl, hWF⟩
            · have hw := hw.2 c11
              refine g_bipush (v := (-2 : Int32)) C dX11_tell_95 (by decide) ?_
              exact g_iret C dX11_tell_97 hr ⟨hw, rfl, rfl, hWF⟩
      · have hw := hw.2 c3
        refine g_iload_n C dX11_tell_40 rfl 2 rfl ?_
        refine g_i2l C dX11_tell_41 ?_
        refine g_lconst (v := (0 : Int64)) C dX11_tell_42 (by decide) ?_
        refine g_ldc2 C dX11_tell_43 ft_434 ?_
        refine g_callSi (As := [.long (x2.toInt64), .long (0 : Int64), .long (3 : Int64)]) C dX11_tell_46 ft_360 ft_361 (met_X11_in l hWF  hw) ⟨rfl, rfl, Nat.le_of_ble_eq_true rfl, Nat.le_of_ble_eq_true rfl⟩ ⟨Nat.zero_le _, Nat.zero_le _⟩ rfl rfl (Nat.le_of_ble_eq_true rfl) (fun r20 I20 J20 Q20 hp => ?_)
        obtain ⟨hw, eI, eJ, eQ, hWF⟩ := hp
        have eI : I = I20 := Eq.symm eI
        subst eI
        have eJ : J = J20 := Eq.symm eJ
        subst eJ
        have eQ : Q = Q20 := Eq.symm eQ
        subst eQ
        try dsimp only at hw hWF
        refine g_goto C dX11_tell_49 (tgt := 74) (by decide) ?_
        refine g_istore_n (lv' := [(3, .int r20), (0, .ref (ad h0)), (1, .int x1), (2, .int x2)]) C dX11_tell_74 rfl (by decide) rfl ?_
        refine g_iload_n C dX11_tell_75 rfl 0 rfl ?_
        refine g_if_ne (tgt := 81) C dX11_tell_76 (by decide) (fun c21 => ?_) (fun c21 => ?_)
        · have hw := hw.1 c21
          refine g_aload_n C dX11_tell_81 rfl 1 rfl ?_
          refine g_getQ C dX11_tell_82 ft_326 z0 (hWF.q z0 0 rfl) ?_
          have zz22 := hWF.r z0 0 rfl
          refine g_iload_n C dX11_tell_85 rfl 2 rfl ?_
          refine g_iald C dX11_tell_86 zz22 hw.1 ?_
          have hw := hw.2
          refine g_istore (lv' := [(4, .int (I (rq Q h0 0) x1.toNatClampNeg)), (3, .int r20), (0, .ref (ad h0)), (1, .int x1), (2, .int x2)]) C dX11_tell_87 (by decide) rfl ?_
          refine g_iload C dX11_tell_89 0 rfl ?_
          refine g_iload_n C dX11_tell_91 rfl 4 rfl ?_
          refine g_icmp_ne (tgt := 98) C dX11_tell_92 (by decide) (fun c23 => ?_) (fun c23 => ?_)
          · have hw := hw.1 c23
            refine g_aload_n C dX11_tell_98 rfl 2 rfl ?_
            refine g_callVv (As := []) C dX11_tell_99 ft_350 z0 ft_393 ft_394 (met_X11_remembers l hWF z0 hw) ⟨rfl, rfl, Nat.le_of_ble_eq_true rfl, Nat.le_of_ble_eq_true rfl⟩ ⟨Nat.zero_le _, Nat.zero_le _⟩ rfl rfl (Nat.le_of_ble_eq_true rfl) (fun I24 J24 Q24 hp => ?_)
            obtain ⟨hw, eJ, eQ, hWF⟩ := hp
            have eJ : J = J24 := Eq.symm eJ
            subst eJ
            have eQ : Q = Q24 := Eq.symm eQ
            subst eQ
            try dsimp only at hw hWF
            refine g_aload_n C dX11_tell_102 rfl 2 rfl ?_
            refine g_getQ C dX11_tell_103 ft_326 z0 (hWF.q z0 0 rfl) ?_
            have zz25 := hWF.r z0 0 rfl
            refine g_iload_n C dX11_tell_106 rfl 3 rfl ?_
            refine g_iload_n C dX11_tell_107 rfl 4 rfl ?_
            refine g_iast C dX11_tell_108 zz25 hw.1 ?_
            have hw := hw.2
            refine g_iload_n C dX11_tell_109 rfl 3 rfl ?_
            refine g_iconst (v := (2 : Int32)) C dX11_tell_110 (by decide) ?_
            refine g_icmp_ge (tgt := 118) C dX11_tell_111 (by decide) (fun c26 => ?_) (fun c26 => ?_)
            · have hw := hw.1 c26
              refine g_iload_n C dX11_tell_118 rfl 3 rfl ?_
              refine g_if_ne (tgt := 126) C dX11_tell_119 (by decide) (fun c27 => ?_) (fun c27 => ?_)
              · have hw := hw.1 c27
                refine g_iload C dX11_tell_126 0 rfl ?_
                exact g_iret C dX11_tell_128 hr ⟨hw, rfl, rfl, hWF⟩
              · have hw := hw.2 c27
                refine g_aload_n C dX11_tell_122 rfl 2 rfl ?_
                refine g_callVv (As := []) C dX11_tell_123 ft_350 z0 ft_430 ft_431 (met_X11_laysPath l hWF z0 hw) ⟨rfl, rfl, Nat.le_of_ble_eq_true rfl, Nat.le_of_ble_eq_true rfl⟩ ⟨Nat.zero_le _, Nat.zero_le _⟩ rfl rfl (Nat.le_of_ble_eq_true rfl) (fun I28 J28 Q28 hp => ?_)
                obtain ⟨hw, eJ, eQ, hWF⟩ := hp
                have eJ : J = J28 := Eq.symm eJ
                subst eJ
                have eQ : Q = Q28 := Eq.symm eQ
                subst eQ
                try dsimp only at hw hWF
                refine g_iload C dX11_tell_126 0 rfl ?_
                exact g_iret C dX11_tell_128 hr ⟨hw, rfl, rfl, hWF⟩
            · have hw := hw.2 c26
              refine g_aload_n C dX11_tell_114 rfl 2 rfl ?_
              refine g_callVv (As := []) C dX11_tell_115 ft_350 z0 ft_432 ft_433 (met_X11_forgets l hWF z0 hw) ⟨rfl, rfl, Nat.le_of_ble_eq_true rfl, Nat.le_of_ble_eq_true rfl⟩ ⟨Nat.zero_le _, Nat.zero_le _⟩ rfl rfl (Nat.le_of_ble_eq_true rfl) (fun I29 J29 Q29 hp => ?_)
              obtain ⟨hw, eJ, eQ, hWF⟩ := hp
              have eJ : J = J29 := Eq.symm eJ
              subst eJ
              have eQ : Q = Q29 := Eq.symm eQ
              subst eQ
              try dsimp only at hw hWF
              refine g_iload_n C dX11_tell_118 rfl 3 rfl ?_
              refine g_if_ne (tgt := 126) C dX11_tell_119 (by decide) (fun c30 => ?_) (fun c30 => ?_)
              · have hw := hw.1 c30
                refine g_iload C dX11_tell_126 0 rfl ?_
                exact g_iret C dX11_tell_128 hr ⟨hw, rfl, rfl, hWF⟩
              · have hw := hw.2 c30
                refine g_aload_n C dX11_tell_122 rfl 2 rfl ?_
                refine g_callVv (As := []) C dX11_tell_123 ft_350 z0 ft_430 ft_431 (met_X11_laysPath l hWF z0 hw) ⟨rfl, rfl, Nat.le_of_ble_eq_true rfl, Nat.le_of_ble_eq_true rfl⟩ ⟨Nat.zero_le _, Nat.zero_le _⟩ rfl rfl (Nat.le_of_ble_eq_true rfl) (fun I31 J31 Q31 hp => ?_)
                obtain ⟨hw, eJ, eQ, hWF⟩ := hp
                have eJ : J = J31 := Eq.symm eJ
                subst eJ
                have eQ : Q = Q31 := Eq.symm eQ
                subst eQ
                try dsimp only at hw hWF
                refine g_iload C dX11_tell_126 0 rfl ?_
                exact g_iret C dX11_tell_128 hr ⟨hw, rfl, rfl, hWF⟩
          · have hw := hw.2 c23
            refine g_bipush (v := (-2 : Int32)) C dX11_tell_95 (by decide) ?_
            exact g_iret C dX11_tell_97 hr ⟨hw, rfl, rfl, hWF⟩
        · have hw := hw.2 c21
          refine g_iconst (v := (-1 : Int32)) C dX11_tell_79 (by decide) ?_
          exact g_iret C dX11_tell_80 hr ⟨hw, rfl, rfl, hWF⟩
    · have hw := hw.2 c2
      refine g_iload_n C dX11_tell_23 rfl 2 rfl ?_
      refine g_i2l C dX11_tell_24 ?_
      refine g_lconst (v := (1 : Int64)) C dX11_tell_25 (by decide) ?_
      refine g_ldc2 C dX11_tell_26 ft_435 ?_
      refine g_callSi (As := [.long (x2.toInt64), .long (1 : Int64), .long (8 : Int64)]) C dX11_tell_29 ft_360 ft_361 (met_X11_in l hWF  hw) ⟨rfl, rfl, Nat.le_of_ble_eq_true rfl, Nat.le_of_ble_eq_true rfl⟩ ⟨Nat.zero_le _, Nat.zero_le _⟩ rfl rfl (Nat.le_of_ble_eq_true rfl) (fun r32 I32 J32 Q32 hp => ?_)
      obtain ⟨hw, eI, eJ, eQ, hWF⟩ := hp
      have eI : I = I32 := Eq.symm eI
      subst eI
      have eJ : J = J32 := Eq.symm eJ
      subst eJ
      have eQ : Q = Q32 := Eq.symm eQ
      subst eQ
      try dsimp only at hw hWF
      refine g_goto C dX11_tell_32 (tgt := 74) (by decide) ?_
      refine g_istore_n (lv' := [(3, .int r32), (0, .ref (ad h0)), (1, .int x1), (2, .int x2)]) C dX11_tell_74 rfl (by decide) rfl ?_
      refine g_iload_n C dX11_tell_75 rfl 0 rfl ?_
      refine g_if_ne (tgt := 81) C dX11_tell_76 (by decide) (fun c33 => ?_) (fun c33 => ?_)
      · have hw := hw.1 c33
        refine g_aload_n C dX11_tell_81 rfl 1 rfl ?_
        refine g_getQ C dX11_tell_82 ft_326 z0 (hWF.q z0 0 rfl) ?_
        have zz34 := hWF.r z0 0 rfl
        refine g_iload_n C dX11_tell_85 rfl 2 rfl ?_
        refine g_iald C dX11_tell_86 zz34 hw.1 ?_
        have hw := hw.2
        refine g_istore (lv' := [(4, .int (I (rq Q h0 0) x1.toNatClampNeg)), (3, .int r32), (0, .ref (ad h0)), (1, .int x1), (2, .int x2)]) C dX11_tell_87 (by decide) rfl ?_
        refine g_iload C dX11_tell_89 0 rfl ?_
        refine g_iload_n C dX11_tell_91 rfl 4 rfl ?_
        refine g_icmp_ne (tgt := 98) C dX11_tell_92 (by decide) (fun c35 => ?_) (fun c35 => ?_)
        · have hw := hw.1 c35
          refine g_aload_n C dX11_tell_98 rfl 2 rfl ?_
          refine g_callVv (As := []) C dX11_tell_99 ft_350 z0 ft_393 ft_394 (met_X11_remembers l hWF z0 hw) ⟨rfl, rfl, Nat.le_of_ble_eq_true rfl, Nat.le_of_ble_eq_true rfl⟩ ⟨Nat.zero_le _, Nat.zero_le _⟩ rfl rfl (Nat.le_of_ble_eq_true rfl) (fun I36 J36 Q36 hp => ?_)
          obtain ⟨hw, eJ, eQ, hWF⟩ := hp
          have eJ : J = J36 := Eq.symm eJ
          subst eJ
          have eQ : Q = Q36 := Eq.symm eQ
          subst eQ
          try dsimp only at hw hWF
          refine g_aload_n C dX11_tell_102 rfl 2 rfl ?_
          refine g_getQ C dX11_tell_103 ft_326 z0 (hWF.q z0 0 rfl) ?_
          have zz37 := hWF.r z0 0 rfl
          refine g_iload_n C dX11_tell_106 rfl 3 rfl ?_
          refine g_iload_n C dX11_tell_107 rfl 4 rfl ?_
          refine g_iast C dX11_tell_108 zz37 hw.1 ?_
          have hw := hw.2
          refine g_iload_n C dX11_tell_109 rfl 3 rfl ?_
          refine g_iconst (v := (2 : Int32)) C dX11_tell_110 (by decide) ?_
          refine g_icmp_ge (tgt := 118) C dX11_tell_111 (by decide) (fun c38 => ?_) (fun c38 => ?_)
          · have hw := hw.1 c38
            refine g_iload_n C dX11_tell_118 rfl 3 rfl ?_
            refine g_if_ne (tgt := 126) C dX11_tell_119 (by decide) (fun c39 => ?_) (fun c39 => ?_)
            · have hw := hw.1 c39
              refine g_iload C dX11_tell_126 0 rfl ?_
              exact g_iret C dX11_tell_128 hr ⟨hw, rfl, rfl, hWF⟩
            · have hw := hw.2 c39
              refine g_aload_n C dX11_tell_122 rfl 2 rfl ?_
              refine g_callVv (As := []) C dX11_tell_123 ft_350 z0 ft_430 ft_431 (met_X11_laysPath l hWF z0 hw) ⟨rfl, rfl, Nat.le_of_ble_eq_true rfl, Nat.le_of_ble_eq_true rfl⟩ ⟨Nat.zero_le _, Nat.zero_le _⟩ rfl rfl (Nat.le_of_ble_eq_true rfl) (fun I40 J40 Q40 hp => ?_)
              obtain ⟨hw, eJ, eQ, hWF⟩ := hp
              have eJ : J = J40 := Eq.symm eJ
              subst eJ
              have eQ : Q = Q40 := Eq.symm eQ
              subst eQ
              try dsimp only at hw hWF
              refine g_iload C dX11_tell_126 0 rfl ?_
              exact g_iret C dX11_tell_128 hr ⟨hw, rfl, rfl, hWF⟩
          · have hw := hw.2 c38
            refine g_aload_n C dX11_tell_114 rfl 2 rfl ?_
            refine g_callVv (As := []) C dX11_tell_115 ft_350 z0 ft_432 ft_433 (met_X11_forgets l hWF z0 hw) ⟨rfl, rfl, Nat.le_of_ble_eq_true rfl, Nat.le_of_ble_eq_true rfl⟩ ⟨Nat.zero_le _, Nat.zero_le _⟩ rfl rfl (Nat.le_of_ble_eq_true rfl) (fun I41 J41 Q41 hp => ?_)
            obtain ⟨hw, eJ, eQ, hWF⟩ := hp
            have eJ : J = J41 := Eq.symm eJ
            subst eJ
            have eQ : Q = Q41 := Eq.symm eQ
            subst eQ
            try dsimp only at hw hWF
            refine g_iload_n C dX11_tell_118 rfl 3 rfl ?_
            refine g_if_ne (tgt := 126) C dX11_tell_119 (by decide) (fun c42 => ?_) (fun c42 => ?_)
            · have hw := hw.1 c42
              refine g_iload C dX11_tell_126 0 rfl ?_
              exact g_iret C dX11_tell_128 hr ⟨hw, rfl, rfl, hWF⟩
            · have hw := hw.2 c42
              refine g_aload_n C dX11_tell_122 rfl 2 rfl ?_
              refine g_callVv (As := []) C dX11_tell_123 ft_350 z0 ft_430 ft_431 (met_X11_laysPath l hWF z0 hw) ⟨rfl, rfl, Nat.le_of_ble_eq_true rfl, Nat.le_of_ble_eq_true rfl⟩ ⟨Nat.zero_le _, Nat.zero_le _⟩ rfl rfl (Nat.le_of_ble_eq_true rfl) (fun I43 J43 Q43 hp => ?_)
              obtain ⟨hw, eJ, eQ, hWF⟩ := hp
              have eJ : J = J43 := Eq.symm eJ
              subst eJ
              have eQ : Q = Q43 := Eq.symm eQ
              subst eQ
              try dsimp only at hw hWF
              refine g_iload C dX11_tell_126 0 rfl ?_
              exact g_iret C dX11_tell_128 hr ⟨hw, rfl, rfl, hWF⟩
        · have hw := hw.2 c35
          refine g_bipush (v := (-2 : Int32)) C dX11_tell_95 (by decide) ?_
          exact g_iret C dX11_tell_97 hr ⟨hw, rfl, rfl, hWF⟩
      · have hw := hw.2 c33
        refine g_iconst (v := (-1 : Int32)) C dX11_tell_79 (by decide) ?_
        exact g_iret C dX11_tell_80 hr ⟨hw, rfl, rfl, hWF⟩
  · have hw := hw.2 c1
    refine g_iload_n C dX11_tell_4 rfl 2 rfl ?_
    refine g_i2l C dX11_tell_5 ?_
    refine g_ldc2 C dX11_tell_6 ft_411 ?_
    refine g_ldc2 C dX11_tell_9 ft_436 ?_
    refine g_callSi (As := [.long (x2.toInt64), .long (2 : Int64), .long (6 : Int64)]) C dX11_tell_12 ft_360 ft_361 (met_X11_in l hWF  hw) ⟨rfl, rfl, Nat.le_of_ble_eq_true rfl, Nat.le_of_ble_eq_true rfl⟩ ⟨Nat.zero_le _, Nat.zero_le _⟩ rfl rfl (Nat.le_of_ble_eq_true rfl) (fun r44 I44 J44 Q44 hp => ?_)
    obtain ⟨hw, eI, eJ, eQ, hWF⟩ := hp
    have eI : I = I44 := Eq.symm eI
    subst eI
    have eJ : J = J44 := Eq.symm eJ
    subst eJ
    have eQ : Q = Q44 := Eq.symm eQ
    subst eQ
    try dsimp only at hw hWF
    refine g_goto C dX11_tell_15 (tgt := 74) (by decide) ?_
    refine g_istore_n (lv' := [(3, .int r44), (0, .ref (ad h0)), (1, .int x1), (2, .int x2)]) C dX11_tell_74 rfl (by decide) rfl ?_
    refine g_iload_n C dX11_tell_75 rfl 0 rfl ?_
    refine g_if_ne (tgt := 81) C dX11_tell_76 (by decide) (fun c45 => ?_) (fun c45 => ?_)
    · have hw := hw.1 c45
      refine g_aload_n C dX11_tell_81 rfl 1 rfl ?_
      refine g_getQ C dX11_tell_82 ft_326 z0 (hWF.q z0 0 rfl) ?_
      have zz46 := hWF.r z0 0 rfl
      refine g_iload_n C dX11_tell_85 rfl 2 rfl ?_
      refine g_iald C dX11_tell_86 zz46 hw.1 ?_
      have hw := hw.2
      refine g_istore (lv' := [(4, .int (I (rq Q h0 0) x1.toNatClampNeg)), (3, .int r44), (0, .ref (ad h0)), (1, .int x1), (2, .int x2)]) C dX11_tell_87 (by decide) rfl ?_
      refine g_iload C dX11_tell_89 0 rfl ?_
      refine g_iload_n C dX11_tell_91 rfl 4 rfl ?_
      refine g_icmp_ne (tgt := 98) C dX11_tell_92 (by decide) (fun c47 => ?_) (fun c47 => ?_)
      · have hw := hw.1 c47
        refine g_aload_n C dX11_tell_98 rfl 2 rfl ?_
        refine g_callVv (As := []) C dX11_tell_99 ft_350 z0 ft_393 ft_394 (met_X11_remembers l hWF z0 hw) ⟨rfl, rfl, Nat.le_of_ble_eq_true rfl, Nat.le_of_ble_eq_true rfl⟩ ⟨Nat.zero_le _, Nat.zero_le _⟩ rfl rfl (Nat.le_of_ble_eq_true rfl) (fun I48 J48 Q48 hp => ?_)
        obtain ⟨hw, eJ, eQ, hWF⟩ := hp
        have eJ : J = J48 := Eq.symm eJ
        subst eJ
        have eQ : Q = Q48 := Eq.symm eQ
        subst eQ
        try dsimp only at hw hWF
        refine g_aload_n C dX11_tell_102 rfl 2 rfl ?_
        refine g_getQ C dX11_tell_103 ft_326 z0 (hWF.q z0 0 rfl) ?_
        have zz49 := hWF.r z0 0 rfl
        refine g_iload_n C dX11_tell_106 rfl 3 rfl ?_
        refine g_iload_n C dX11_tell_107 rfl 4 rfl ?_
        refine g_iast C dX11_tell_108 zz49 hw.1 ?_
        have hw := hw.2
        refine g_iload_n C dX11_tell_109 rfl 3 rfl ?_
        refine g_iconst (v := (2 : Int32)) C dX11_tell_110 (by decide) ?_
        refine g_icmp_ge (tgt := 118) C dX11_tell_111 (by decide) (fun c50 => ?_) (fun c50 => ?_)
        · have hw := hw.1 c50
          refine g_iload_n C dX11_tell_118 rfl 3 rfl ?_
          refine g_if_ne (tgt := 126) C dX11_tell_119 (by decide) (fun c51 => ?_) (fun c51 => ?_)
          · have hw := hw.1 c51
            refine g_iload C dX11_tell_126 0 rfl ?_
            exact g_iret C dX11_tell_128 hr ⟨hw, rfl, rfl, hWF⟩
          · have hw := hw.2 c51
            refine g_aload_n C dX11_tell_122 rfl 2 rfl ?_
            refine g_callVv (As := []) C dX11_tell_123 ft_350 z0 ft_430 ft_431 (met_X11_laysPath l hWF z0 hw) ⟨rfl, rfl, Nat.le_of_ble_eq_true rfl, Nat.le_of_ble_eq_true rfl⟩ ⟨Nat.zero_le _, Nat.zero_le _⟩ rfl rfl (Nat.le_of_ble_eq_true rfl) (fun I52 J52 Q52 hp => ?_)
            obtain ⟨hw, eJ, eQ, hWF⟩ := hp
            have eJ : J = J52 := Eq.symm eJ
            subst eJ
            have eQ : Q = Q52 := Eq.symm eQ
            subst eQ
            try dsimp only at hw hWF
            refine g_iload C dX11_tell_126 0 rfl ?_
            exact g_iret C dX11_tell_128 hr ⟨hw, rfl, rfl, hWF⟩
        · have hw := hw.2 c50
          refine g_aload_n C dX11_tell_114 rfl 2 rfl ?_
          refine g_callVv (As := []) C dX11_tell_115 ft_350 z0 ft_432 ft_433 (met_X11_forgets l hWF z0 hw) ⟨rfl, rfl, Nat.le_of_ble_eq_true rfl, Nat.le_of_ble_eq_true rfl⟩ ⟨Nat.zero_le _, Nat.zero_le _⟩ rfl rfl (Nat.le_of_ble_eq_true rfl) (fun I53 J53 Q53 hp => ?_)
          obtain ⟨hw, eJ, eQ, hWF⟩ := hp
          have eJ : J = J53 := Eq.symm eJ
          subst eJ
          have eQ : Q = Q53 := Eq.symm eQ
          subst eQ
          try dsimp only at hw hWF
          refine g_iload_n C dX11_tell_118 rfl 3 rfl ?_
          refine g_if_ne (tgt := 126) C dX11_tell_119 (by decide) (fun c54 => ?_) (fun c54 => ?_)
          · have hw := hw.1 c54
            refine g_iload C dX11_tell_126 0 rfl ?_
            exact g_iret C dX11_tell_128 hr ⟨hw, rfl, rfl, hWF⟩
          · have hw := hw.2 c54
            refine g_aload_n C dX11_tell_122 rfl 2 rfl ?_
            refine g_callVv (As := []) C dX11_tell_123 ft_350 z0 ft_430 ft_431 (met_X11_laysPath l hWF z0 hw) ⟨rfl, rfl, Nat.le_of_ble_eq_true rfl, Nat.le_of_ble_eq_true rfl⟩ ⟨Nat.zero_le _, Nat.zero_le _⟩ rfl rfl (Nat.le_of_ble_eq_true rfl) (fun I55 J55 Q55 hp => ?_)
            obtain ⟨hw, eJ, eQ, hWF⟩ := hp
            have eJ : J = J55 := Eq.symm eJ
            subst eJ
            have eQ : Q = Q55 := Eq.symm eQ
            subst eQ
            try dsimp only at hw hWF
            refine g_iload C dX11_tell_126 0 rfl ?_
            exact g_iret C dX11_tell_128 hr ⟨hw, rfl, rfl, hWF⟩
      · have hw := hw.2 c47
        refine g_bipush (v := (-2 : Int32)) C dX11_tell_95 (by decide) ?_
        exact g_iret C dX11_tell_97 hr ⟨hw, rfl, rfl, hWF⟩
    · have hw := hw.2 c45
      refine g_iconst (v := (-1 : Int32)) C dX11_tell_79 (by decide) ?_
      exact g_iret C dX11_tell_80 hr ⟨hw, rfl, rfl, hWF⟩
def wp_X11_type (I : KI) (Q : KQ) (h0 : Nat) (x1 : Int32) (post : Int32 → KI → Prop) : Prop := wp_X11_in (x1.toInt64) (32 : Int64) (126 : Int64) (fun r1 => ((¬ r1 = 0 → ((¬ (I h0 20) = (90 : Int32) → (vp_in (I h0 20) 90 ∧ post ((sti (sti I (rq Q h0 19) (I h0 20).toNatClampNeg x1) h0 20 (((sti I (rq Q h0 19) (I h0 20).toNatClampNeg x1) h0 20) + (1 : Int32))) h0 20) (sti (sti I (rq Q h0 19) (I h0 20).toNatClampNeg x1) h0 20 (((sti I (rq Q h0 19) (I h0 20).toNatClampNeg x1) h0 20) + (1 : Int32))))) ∧ ((I h0 20) = (90 : Int32) → post (-3 : Int32) I))) ∧ (r1 = 0 → post (-1 : Int32) I)))
set_option maxHeartbeats 4000000 in
set_option maxRecDepth 100000 in
theorem met_X11_type {Z : Nat → Prop} {A : Nat → Prop} {D : va_G} {D2 : Nat → ClassId} {ad : Nat → Nat} {N : Nat} {T : Nat → Nat × Nat} (l : Launch) {I : KI} {J : KJ} {Q : KQ} {h0 : Nat} {x1 : Int32} {post : Int32 → KI → Prop} (hWF : WF Z N T Q) (z0 : OKr Z N T h0 (11, 0)) (hw : wp_X11_type I Q h0 x1 post) : Met l yX11_type (.code yX11_type cX11_type 2 (some .int) :: BIG) ({ frames := 1, cells := 0, slots := 0, locals := 25 }) (Pr D D2 A ad N T I J Q [.ref (ad h0), .int x1]) (va_Qi (fun (r : Int32) (u : KS) => post r u.1 ∧ u.2.1 = J ∧ u.2.2 = Q ∧ WF Z N T u.2.2) (Bw D D2 ad N T) A) 0 0 A := by
  refine Met_GG (lv0 := [(0, .ref (ad h0)), (1, .int x1)]) (by decide +kernel) [.ref (ad h0), .int x1] (Nat.le_of_ble_eq_true rfl) rfl ?_
  intro p e s m below meth c C hr
  have C : CX p s m [.ref (ad h0), .int x1].toArray meth c cX11_type 2 RX11 A D D2 := C
  unfold wp_X11_type at hw
  refine g_iload_n C dX11_type_0 rfl 1 rfl ?_
  refine g_i2l C dX11_type_1 ?_
  refine g_ldc2 C dX11_type_2 ft_437 ?_
  refine g_ldc2 C dX11_type_5 ft_438 ?_
  refine g_callSi (As := [.long (x1.toInt64), .long (32 : Int64), .long (126 : Int64)]) C dX11_type_8 ft_360 ft_361 (met_X11_in l hWF  hw) ⟨rfl, rfl, Nat.le_of_ble_eq_true rfl, Nat.le_of_ble_eq_true rfl⟩ ⟨Nat.zero_le _, Nat.zero_le _⟩ rfl rfl (Nat.le_of_ble_eq_true rfl) (fun r1 I1 J1 Q1 hp => ?_)
  obtain ⟨hw, eI, eJ, eQ, hWF⟩ := hp
  have eI : I = I1 := Eq.symm eI
  subst eI
  have eJ : J = J1 := Eq.symm eJ
  subst eJ
  have eQ : Q = Q1 := Eq.symm eQ
  subst eQ
  try dsimp only at hw hWF
  refine g_if_ne (tgt := 16) C dX11_type_11 (by decide) (fun c2 => ?_) (fun c2 => ?_)
  · have hw := hw.1 c2
    refine g_aload_n C dX11_type_16 rfl 0 rfl ?_
    refine g_getI C dX11_type_17 ft_439 z0 ?_
    refine g_bipush (v := (90 : Int32)) C dX11_type_20 (by decide) ?_
    refine g_icmp_ne (tgt := 28) C dX11_type_22 (by decide) (fun c3 => ?_) (fun c3 => ?_)
    · have hw := hw.1 c3
      refine g_aload_n C dX11_type_28 rfl 0 rfl ?_
      refine g_getQ C dX11_type_29 ft_440 z0 (hWF.q z0 19 rfl) ?_
      have zz4 := hWF.r z0 19 rfl
      refine g_aload_n C dX11_type_32 rfl 0 rfl ?_
      refine g_getI C dX11_type_33 ft_439 z0 ?_
      refine g_iload_n C dX11_type_36 rfl 1 rfl ?_
      refine g_iast C dX11_type_37 zz4 hw.1 ?_
      have hw := hw.2
      refine g_aload_n C dX11_type_38 rfl 0 rfl ?_
      refine g_dup C dX11_type_39 rfl ?_
      refine g_getI C dX11_type_40 ft_439 z0 ?_
      refine g_iconst (v := (1 : Int32)) C dX11_type_43 (by decide) ?_
      refine g_iadd C dX11_type_44 ?_
      refine g_putI C dX11_type_45 ft_441 z0 ?_
      refine g_aload_n C dX11_type_48 rfl 0 rfl ?_
      refine g_getI C dX11_type_49 ft_439 z0 ?_
      exact g_iret C dX11_type_52 hr ⟨hw, rfl, rfl, hWF⟩
    · have hw := hw.2 c3
      refine g_bipush (v := (-3 : Int32)) C dX11_type_25 (by decide) ?_
      exact g_iret C dX11_type_27 hr ⟨hw, rfl, rfl, hWF⟩
  · have hw := hw.2 c2
    refine g_iconst (v := (-1 : Int32)) C dX11_type_14 (by decide) ?_
    exact g_iret C dX11_type_15 hr ⟨hw, rfl, rfl, hWF⟩
def wp_X11_here_L0 (Qf_1 : KQ) (f0_1 : Nat) (k38 : KI → Prop) : Nat → KI → Prop
  | 0, _ => False
  | n0 + 1, I_1 => (((I_1 f0_1 20) ≤ (I_1 f0_1 21) → k38 I_1) ∧ (¬ (I_1 f0_1 20) ≤ (I_1 f0_1 21) → (vp_in (I_1 f0_1 21) 90 ∧ ((¬ (I_1 (rq Qf_1 f0_1 19) (I_1 f0_1 21).toNatClampNeg) = (32 : Int32) → k38 I_1) ∧ ((I_1 (rq Qf_1 f0_1 19) (I_1 f0_1 21).toNatClampNeg) = (32 : Int32) → wp_X11_here_L0 Qf_1 f0_1 k38 n0 (sti I_1 f0_1 21 ((I_1 f0_1 21) + (1 : Int32))))))))
def wp_X11_here (I : KI) (Q : KQ) (h0 : Nat) (post : Int32 → KI → Prop) : Prop := (∃ q0, wp_X11_here_L0 Q h0 (fun I_6 => (((I_6 h0 20) ≤ (I_6 h0 21) → post (-1 : Int32) I_6) ∧ (¬ (I_6 h0 20) ≤ (I_6 h0 21) → (vp_in (I_6 h0 21) 90 ∧ post (I_6 (rq Q h0 19) (I_6 h0 21).toNatClampNeg) I_6)))) q0 I)
set_option maxHeartbeats 4000000 in
set_option maxRecDepth 100000 in
theorem met_X11_here {Z : Nat → Prop} {A : Nat → Prop} {D : va_G} {D2 : Nat → ClassId} {ad : Nat → Nat} {N : Nat} {T : Nat → Nat × Nat} (l : Launch) {I : KI} {J : KJ} {Q : KQ} {h0 : Nat} {post : Int32 → KI → Prop} (hWF : WF Z N T Q) (z0 : OKr Z N T h0 (11, 0)) (hw : wp_X11_here I Q h0 post) : Met l yX11_here (.code yX11_here cX11_here 1 (some .int) :: BIG) ({ frames := 0, cells := 0, slots := 0, locals := 0 }) (Pr D D2 A ad N T I J Q [.ref (ad h0)]) (va_Qi (fun (r : Int32) (u : KS) => post r u.1 ∧ u.2.1 = J ∧ u.2.2 = Q ∧ WF Z N T u.2.2) (Bw D D2 ad N T) A) 0 0 A := by
  refine Met_GG (lv0 := [(0, .ref (ad h0))]) (by decide +kernel) [.ref (ad h0)] (Nat.le_of_ble_eq_true rfl) rfl ?_
  intro p e s m below meth c C hr
  have C : CX p s m [.ref (ad h0)].toArray meth c cX11_here 1 RX11 A D D2 := C
  unfold wp_X11_here at hw
  have K38_u5 : ∀ (I_6 : KI), ((((I_6 h0 20) ≤ (I_6 h0 21) → post (-1 : Int32) I_6) ∧ (¬ (I_6 h0 20) ≤ (I_6 h0 21) → (vp_in (I_6 h0 21) 90 ∧ post (I_6 (rq Q h0 19) (I_6 h0 21).toNatClampNeg) I_6)))) → WF Z N T Q → GG p l e ({ frames := 0, cells := 0, slots := 0, locals := 0 }) s m [.ref (ad h0)].toArray below meth c 1 A D D2 0 0 (MQ below (va_Qi (fun (r : Int32) (u : KS) => post r u.1 ∧ u.2.1 = J ∧ u.2.2 = Q ∧ WF Z N T u.2.2) (Bw D D2 ad N T) A) [.ref (ad h0)].toArray s 0 0 A) ad N T I_6 J Q 38 [(0, .ref (ad h0))] [] := by
    intro I_6 hw hWF
    refine g_aload_n C dX11_here_38 rfl 0 rfl ?_
    refine g_getI C dX11_here_39 ft_442 z0 ?_
    refine g_aload_n C dX11_here_42 rfl 0 rfl ?_
    refine g_getI C dX11_here_43 ft_439 z0 ?_
    refine g_icmp_ge (tgt := 61) C dX11_here_46 (by decide) (fun c7 => ?_) (fun c7 => ?_)
    · have hw := hw.1 c7
      refine g_iconst (v := (-1 : Int32)) C dX11_here_61 (by decide) ?_
      exact g_iret C dX11_here_62 hr ⟨hw, rfl, rfl, hWF⟩
    · have hw := hw.2 c7
      refine g_aload_n C dX11_here_49 rfl 0 rfl ?_
      refine g_getQ C dX11_here_50 ft_440 z0 (hWF.q z0 19 rfl) ?_
      have zz8 := hWF.r z0 19 rfl
      refine g_aload_n C dX11_here_53 rfl 0 rfl ?_
      refine g_getI C dX11_here_54 ft_442 z0 ?_
      refine g_iald C dX11_here_57 zz8 hw.1 ?_
      have hw := hw.2
      refine g_goto C dX11_here_58 (tgt := 62) (by decide) ?_
      exact g_iret C dX11_here_62 hr ⟨hw, rfl, rfl, hWF⟩
  have L0_u5 : ∀ (n0 : Nat) (I_1 : KI), wp_X11_here_L0 Q h0 (fun I_6 => (((I_6 h0 20) ≤ (I_6 h0 21) → post (-1 : Int32) I_6) ∧ (¬ (I_6 h0 20) ≤ (I_6 h0 21) → (vp_in (I_6 h0 21) 90 ∧ post (I_6 (rq Q h0 19) (I_6 h0 21).toNatClampNeg) I_6)))) n0 I_1 → WF Z N T Q → GG p l e ({ frames := 0, cells := 0, slots := 0, locals := 0 }) s m [.ref (ad h0)].toArray below meth c 1 A D D2 0 0 (MQ below (va_Qi (fun (r : Int32) (u : KS) => post r u.1 ∧ u.2.1 = J ∧ u.2.2 = Q ∧ WF Z N T u.2.2) (Bw D D2 ad N T) A) [.ref (ad h0)].toArray s 0 0 A) ad N T I_1 J Q 0 [(0, .ref (ad h0))] [] := by
    intro n0
    induction n0 with
    | zero => intro I_1 hw; exact hw.elim
    | succ n0 ih_u5 =>
      intro I_1 hw hWF
      unfold wp_X11_here_L0 at hw
      refine g_aload_n C dX11_here_0 rfl 0 rfl ?_
      refine g_getI C dX11_here_1 ft_442 z0 ?_
      refine g_aload_n C dX11_here_4 rfl 0 rfl ?_
      refine g_getI C dX11_here_5 ft_439 z0 ?_
      refine g_icmp_ge (tgt := 38) C dX11_here_8 (by decide) (fun c10 => ?_) (fun c10 => ?_)
      · have hw := hw.1 c10
        exact K38_u5 I_1 hw hWF
      · have hw := hw.2 c10
        refine g_aload_n C dX11_here_11 rfl 0 rfl ?_
        refine g_getQ C dX11_here_12 ft_440 z0 (hWF.q z0 19 rfl) ?_
        have zz11 := hWF.r z0 19 rfl
        refine g_aload_n C dX11_here_15 rfl 0 rfl ?_
        refine g_getI C dX11_here_16 ft_442 z0 ?_
        refine g_iald C dX11_here_19 zz11 hw.1 ?_
        have hw := hw.2
        refine g_bipush (v := (32 : Int32)) C dX11_here_20 (by decide) ?_
        refine g_icmp_ne (tgt := 38) C dX11_here_22 (by decide) (fun c12 => ?_) (fun c12 => ?_)
        · have hw := hw.1 c12
          exact K38_u5 I_1 hw hWF
        · have hw := hw.2 c12
          refine g_aload_n C dX11_here_25 rfl 0 rfl ?_
          refine g_dup C dX11_here_26 rfl ?_
          refine g_getI C dX11_here_27 ft_442 z0 ?_
          refine g_iconst (v := (1 : Int32)) C dX11_here_30 (by decide) ?_
          refine g_iadd C dX11_here_31 ?_
          refine g_putI C dX11_here_32 ft_443 z0 ?_
          refine g_goto C dX11_here_35 (tgt := 0) (by decide) ?_
          exact ih_u5 (sti I_1 h0 21 ((I_1 h0 21) + (1 : Int32))) hw hWF
  obtain ⟨n_u5, hw⟩ := hw
  exact L0_u5 n_u5 I hw hWF
def wp_X11_isStop (I : KI) (Q : KQ) (h0 : Nat) (post : Int32 → KI → Prop) : Prop := wp_X11_here I Q h0 (fun r1 I1 => ((r1 < 0 → post (1 : Int32) I1) ∧ (¬ r1 < 0 → ((¬ r1 = (59 : Int32) → post (0 : Int32) I1) ∧ (r1 = (59 : Int32) → post (1 : Int32) I1)))))
set_option maxHeartbeats 4000000 in
set_option maxRecDepth 100000 in
theorem met_X11_isStop {Z : Nat → Prop} {A : Nat → Prop} {D : va_G} {D2 : Nat → ClassId} {ad : Nat → Nat} {N : Nat} {T : Nat → Nat × Nat} (l : Launch) {I : KI} {J : KJ} {Q : KQ} {h0 : Nat} {post : Int32 → KI → Prop} (hWF : WF Z N T Q) (z0 : OKr Z N T h0 (11, 0)) (hw : wp_X11_isStop I Q h0 post) : Met l yX11_isStop (.code yX11_isStop cX11_isStop 2 (some .boolean) :: BIG) ({ frames := 1, cells := 0, slots := 0, locals := 20 }) (Pr D D2 A ad N T I J Q [.ref (ad h0)]) (va_Qi (fun (r : Int32) (u : KS) => post r u.1 ∧ u.2.1 = J ∧ u.2.2 = Q ∧ WF Z N T u.2.2) (Bw D D2 ad N T) A) 0 0 A := by
  refine Met_GG (lv0 := [(0, .ref (ad h0))]) (by decide +kernel) [.ref (ad h0)] (Nat.le_of_ble_eq_true rfl) rfl ?_
  intro p e s m below meth c C hr
  have C : CX p s m [.ref (ad h0)].toArray meth c cX11_isStop 2 RX11 A D D2 := C
  unfold wp_X11_isStop at hw
  refine g_aload_n C dX11_isStop_0 rfl 0 rfl ?_
  refine g_callVi (As := []) C dX11_isStop_1 ft_350 z0 ft_444 ft_445 (met_X11_here l hWF z0 hw) ⟨rfl, rfl, Nat.le_of_ble_eq_true rfl, Nat.le_of_ble_eq_true rfl⟩ ⟨Nat.zero_le _, Nat.zero_le _⟩ rfl rfl (Nat.le_of_ble_eq_true rfl) (fun r1 I1 J1 Q1 hp => ?_)
  obtain ⟨hw, eJ, eQ, hWF⟩ := hp
  have eJ : J = J1 := Eq.symm eJ
  subst eJ
  have eQ : Q = Q1 := Eq.symm eQ
  subst eQ
  try dsimp only at hw hWF
  refine g_istore_n (lv' := [(1, .int r1), (0, .ref (ad h0))]) C dX11_isStop_4 rfl (by decide) rfl ?_
  refine g_iload_n C dX11_isStop_5 rfl 0 rfl ?_
  refine g_if_lt (tgt := 15) C dX11_isStop_6 (by decide) (fun c2 => ?_) (fun c2 => ?_)
  · have hw := hw.1 c2
    refine g_iconst (v := (1 : Int32)) C dX11_isStop_15 (by decide) ?_
    refine g_goto C dX11_isStop_16 (tgt := 20) (by decide) ?_
    exact g_zret C dX11_isStop_20 hr rfl ⟨hw, rfl, rfl, hWF⟩
  · have hw := hw.2 c2
    refine g_iload_n C dX11_isStop_9 rfl 0 rfl ?_
    refine g_bipush (v := (59 : Int32)) C dX11_isStop_10 (by decide) ?_
    refine g_icmp_ne (tgt := 19) C dX11_isStop_12 (by decide) (fun c3 => ?_) (fun c3 => ?_)
    · have hw := hw.1 c3
      refine g_iconst (v := (0 : Int32)) C dX11_isStop_19 (by decide) ?_
      exact g_zret C dX11_isStop_20 hr rfl ⟨hw, rfl, rfl, hWF⟩
    · have hw := hw.2 c3
      refine g_iconst (v := (1 : Int32)) C dX11_isStop_15 (by decide) ?_
      refine g_goto C dX11_isStop_16 (tgt := 20) (by decide) ?_
      exact g_zret C dX11_isStop_20 hr rfl ⟨hw, rfl, rfl, hWF⟩
def wp_X11_nodeHere (I : KI) (Q : KQ) (h0 : Nat) (post : Int32 → KI → Prop) : Prop := wp_X11_here I Q h0 (fun r1 I1 => ((r1 < (48 : Int32) → post (-4 : Int32) I1) ∧ (¬ r1 < (48 : Int32) → ((((48 : Int32) + (I1 (rq Q h0 0) (0 : Int32).toNatClampNeg)) ≤ r1 → post (-4 : Int32) I1) ∧ (¬ ((48 : Int32) + (I1 (rq Q h0 0) (0 : Int32).toNatClampNeg)) ≤ r1 → post (r1 - (48 : Int32)) I1)))))
set_option maxHeartbeats 4000000 in
set_option maxRecDepth 100000 in
theorem met_X11_nodeHere {Z : Nat → Prop} {A : Nat → Prop} {D : va_G} {D2 : Nat → ClassId} {ad : Nat → Nat} {N : Nat} {T : Nat → Nat × Nat} (l : Launch) {I : KI} {J : KJ} {Q : KQ} {h0 : Nat} {post : Int32 → KI → Prop} (hWF : WF Z N T Q) (z0 : OKr Z N T h0 (11, 0)) (hw : wp_X11_nodeHere I Q h0 post) : Met l yX11_nodeHere (.code yX11_nodeHere cX11_nodeHere 2 (some .int) :: BIG) ({ frames := 1, cells := 0, slots := 0, locals := 20 }) (Pr D D2 A ad N T I J Q [.ref (ad h0)]) (va_Qi (fun (r : Int32) (u : KS) => post r u.1 ∧ u.2.1 = J ∧ u.2.2 = Q ∧ WF Z N T u.2.2) (Bw D D2 ad N T) A) 0 0 A := by
  refine Met_GG (lv0 := [(0, .ref (ad h0))]) (by decide +kernel) [.ref (ad h0)] (Nat.le_of_ble_eq_true rfl) rfl ?_
  intro p e s m below meth c C hr
  have C : CX p s m [.ref (ad h0)].toArray meth c cX11_nodeHere 2 RX11 A D D2 := C
  unfold wp_X11_nodeHere at hw
  refine g_aload_n C dX11_nodeHere_0 rfl 0 rfl ?_
  refine g_callVi (As := []) C dX11_nodeHere_1 ft_350 z0 ft_444 ft_445 (met_X11_here l hWF z0 hw) ⟨rfl, rfl, Nat.le_of_ble_eq_true rfl, Nat.le_of_ble_eq_true rfl⟩ ⟨Nat.zero_le _, Nat.zero_le _⟩ rfl rfl (Nat.le_of_ble_eq_true rfl) (fun r1 I1 J1 Q1 hp => ?_)
  obtain ⟨hw, eJ, eQ, hWF⟩ := hp
  have eJ : J = J1 := Eq.symm eJ
  subst eJ
  have eQ : Q = Q1 := Eq.symm eQ
  subst eQ
  try dsimp only at hw hWF
  refine g_istore_n (lv' := [(1, .int r1), (0, .ref (ad h0))]) C dX11_nodeHere_4 rfl (by decide) rfl ?_
  refine g_iload_n C dX11_nodeHere_5 rfl 0 rfl ?_
  refine g_bipush (v := (48 : Int32)) C dX11_nodeHere_6 (by decide) ?_
  refine g_icmp_lt (tgt := 31) C dX11_nodeHere_8 (by decide) (fun c2 => ?_) (fun c2 => ?_)
  · have hw := hw.1 c2
    refine g_bipush (v := (-4 : Int32)) C dX11_nodeHere_31 (by decide) ?_
    exact g_iret C dX11_nodeHere_33 hr ⟨hw, rfl, rfl, hWF⟩
  · have hw := hw.2 c2
    refine g_iload_n C dX11_nodeHere_11 rfl 0 rfl ?_
    refine g_bipush (v := (48 : Int32)) C dX11_nodeHere_12 (by decide) ?_
    refine g_aload_n C dX11_nodeHere_14 rfl 1 rfl ?_
    refine g_getQ C dX11_nodeHere_15 ft_326 z0 (hWF.q z0 0 rfl) ?_
    have zz3 := hWF.r z0 0 rfl
    refine g_iconst (v := (0 : Int32)) C dX11_nodeHere_18 (by decide) ?_
    refine g_iald C dX11_nodeHere_19 zz3 (by decide +kernel) ?_
    refine g_iadd C dX11_nodeHere_20 ?_
    refine g_icmp_ge (tgt := 31) C dX11_nodeHere_21 (by decide) (fun c4 => ?_) (fun c4 => ?_)
    · have hw := hw.1 c4
      refine g_bipush (v := (-4 : Int32)) C dX11_nodeHere_31 (by decide) ?_
      exact g_iret C dX11_nodeHere_33 hr ⟨hw, rfl, rfl, hWF⟩
    · have hw := hw.2 c4
      refine g_iload_n C dX11_nodeHere_24 rfl 0 rfl ?_
      refine g_bipush (v := (48 : Int32)) C dX11_nodeHere_25 (by decide) ?_
      refine g_isub C dX11_nodeHere_27 ?_
      refine g_goto C dX11_nodeHere_28 (tgt := 33) (by decide) ?_
      exact g_iret C dX11_nodeHere_33 hr ⟨hw, rfl, rfl, hWF⟩
def wp_X11_readsRow_L12 (Qf_1 : KQ) (f0_1 : Nat) (k101 : KI → Int32 → Int32 → Int32 → Int32 → Prop) : Nat → KI → Int32 → Int32 → Int32 → Int32 → Prop
  | 0, _, _, _, _, _ => False
  | n12 + 1, I_1, x2_1, x3_1, x4_1, x5_1 => wp_X11_nodeHere I_1 Qf_1 f0_1 (fun r2 I2 => ((r2 = (-4 : Int32) → k101 I2 x2_1 x3_1 x4_1 x5_1) ∧ (¬ r2 = (-4 : Int32) → wp_X11_nodeHere I2 Qf_1 f0_1 (fun r4 I4 => wp_X11_has x2_1 r4 (fun r5 => ((¬ r5 = 0 → k101 I4 x2_1 x3_1 x4_1 x5_1) ∧ (r5 = 0 → wp_X11_nodeHere I4 Qf_1 f0_1 (fun r7 I7 => ((¬ x4_1 = (-4 : Int32) → wp_X11_linkOf x4_1 r7 (fun r9 => ((¬ x4_1 = (-4 : Int32) → wp_X11_readsRow_L12 Qf_1 f0_1 k101 n12 (sti I7 f0_1 21 ((I7 f0_1 21) + (1 : Int32))) (x2_1 ||| ((1 : Int32) <<< (r7 &&& 31))) x3_1 r7 (x5_1 ||| ((1 : Int32) <<< (r9 &&& 31)))) ∧ (x4_1 = (-4 : Int32) → wp_X11_readsRow_L12 Qf_1 f0_1 k101 n12 (sti I7 f0_1 21 ((I7 f0_1 21) + (1 : Int32))) (x2_1 ||| ((1 : Int32) <<< (r7 &&& 31))) r7 r7 (x5_1 ||| ((1 : Int32) <<< (r9 &&& 31))))))) ∧ (x4_1 = (-4 : Int32) → ((¬ x4_1 = (-4 : Int32) → wp_X11_readsRow_L12 Qf_1 f0_1 k101 n12 (sti I7 f0_1 21 ((I7 f0_1 21) + (1 : Int32))) (x2_1 ||| ((1 : Int32) <<< (r7 &&& 31))) x3_1 r7 (x5_1 ||| (0 : Int32))) ∧ (x4_1 = (-4 : Int32) → wp_X11_readsRow_L12 Qf_1 f0_1 k101 n12 (sti I7 f0_1 21 ((I7 f0_1 21) + (1 : Int32))) (x2_1 ||| ((1 : Int32) <<< (r7 &&& 31))) r7 r7 (x5_1 ||| (0 : Int32))))))))))))))
def wp_X11_readsRow (I : KI) (Q : KQ) (h0 : Nat) (x1 : Int32) (post : Int32 → KI → Prop) : Prop := (∃ q12, wp_X11_readsRow_L12 Q h0 (fun I_13 x2_13 x3_13 x4_13 x5_13 => ((x2_13 = (((1 : Int32) <<< ((I_13 (rq Q h0 0) (0 : Int32).toNatClampNeg) &&& 31)) - (1 : Int32)) → ((x1 = 0 → (vp_in (I_13 h0 22) 8 ∧ post (1 : Int32) (sti I_13 (rq Q h0 23) (I_13 h0 22).toNatClampNeg (x5_13 ||| (0 : Int32))))) ∧ (¬ x1 = 0 → wp_X11_linkOf x3_13 x4_13 (fun r18 => (vp_in (I_13 h0 22) 8 ∧ post (1 : Int32) (sti I_13 (rq Q h0 23) (I_13 h0 22).toNatClampNeg (x5_13 ||| ((1 : Int32) <<< (r18 &&& 31))))))))) ∧ (¬ x2_13 = (((1 : Int32) <<< ((I_13 (rq Q h0 0) (0 : Int32).toNatClampNeg) &&& 31)) - (1 : Int32)) → post (0 : Int32) I_13))) q12 I (0 : Int32) (-4 : Int32) (-4 : Int32) (0 : Int32))
set_option maxHeartbeats 4000000 in
set_option maxRecDepth 100000 in
theorem met_X11_readsRow {Z : Nat → Prop} {A : Nat → Prop} {D : va_G} {D2 : Nat → ClassId} {ad : Nat → Nat} {N : Nat} {T : Nat → Nat × Nat} (l : Launch) {I : KI} {J : KJ} {Q : KQ} {h0 : Nat} {x1 : Int32} {post : Int32 → KI → Prop} (hWF : WF Z N T Q) (z0 : OKr Z N T h0 (11, 0)) (hw : wp_X11_readsRow I Q h0 x1 post) : Met l yX11_readsRow (.code yX11_readsRow cX11_readsRow 7 (some .boolean) :: BIG) ({ frames := 2, cells := 0, slots := 0, locals := 41 }) (Pr D D2 A ad N T I J Q [.ref (ad h0), .int x1]) (va_Qi (fun (r : Int32) (u : KS) => post r u.1 ∧ u.2.1 = J ∧ u.2.2 = Q ∧ WF Z N T u.2.2) (Bw D D2 ad N T) A) 0 0 A := by
  refine Met_GG (lv0 := [(0, .ref (ad h0)), (1, .int x1)]) (by decide +kernel) [.ref (ad h0), .int x1] (Nat.le_of_ble_eq_true rfl) rfl ?_
  intro p e s m below meth c C hr
  have C : CX p s m [.ref (ad h0), .int x1].toArray meth c cX11_readsRow 7 RX11 A D D2 := C
  unfold wp_X11_readsRow at hw
  refine g_iconst (v := (0 : Int32)) C dX11_readsRow_0 (by decide) ?_
  refine g_istore_n (lv' := [(2, .int (0 : Int32)), (0, .ref (ad h0)), (1, .int x1)]) C dX11_readsRow_1 rfl (by decide) rfl ?_
  refine g_bipush (v := (-4 : Int32)) C dX11_readsRow_2 (by decide) ?_
  refine g_istore_n (lv' := [(3, .int (-4 : Int32)), (2, .int (0 : Int32)), (0, .ref (ad h0)), (1, .int x1)]) C dX11_readsRow_4 rfl (by decide) rfl ?_
  refine g_bipush (v := (-4 : Int32)) C dX11_readsRow_5 (by decide) ?_
  refine g_istore (lv' := [(4, .int (-4 : Int32)), (3, .int (-4 : Int32)), (2, .int (0 : Int32)), (0, .ref (ad h0)), (1, .int x1)]) C dX11_readsRow_7 (by decide) rfl ?_
  refine g_iconst (v := (0 : Int32)) C dX11_readsRow_9 (by decide) ?_
  refine g_istore (lv' := [(5, .int (0 : Int32)), (4, .int (-4 : Int32)), (3, .int (-4 : Int32)), (2, .int (0 : Int32)), (0, .ref (ad h0)), (1, .int x1)]) C dX11_readsRow_10 (by decide) rfl ?_
  have K101_u12 : ∀ (I_13 : KI) (x2_13 : Int32) (x3_13 : Int32) (x4_13 : Int32) (x5_13 : Int32), (((x2_13 = (((1 : Int32) <<< ((I_13 (rq Q h0 0) (0 : Int32).toNatClampNeg) &&& 31)) - (1 : Int32)) → ((x1 = 0 → (vp_in (I_13 h0 22) 8 ∧ post (1 : Int32) (sti I_13 (rq Q h0 23) (I_13 h0 22).toNatClampNeg (x5_13 ||| (0 : Int32))))) ∧ (¬ x1 = 0 → wp_X11_linkOf x3_13 x4_13 (fun r18 => (vp_in (I_13 h0 22) 8 ∧ post (1 : Int32) (sti I_13 (rq Q h0 23) (I_13 h0 22).toNatClampNeg (x5_13 ||| ((1 : Int32) <<< (r18 &&& 31))))))))) ∧ (¬ x2_13 = (((1 : Int32) <<< ((I_13 (rq Q h0 0) (0 : Int32).toNatClampNeg) &&& 31)) - (1 : Int32)) → post (0 : Int32) I_13))) → WF Z N T Q → GG p l e ({ frames := 2, cells := 0, slots := 0, locals := 41 }) s m [.ref (ad h0), .int x1].toArray below meth c 7 A D D2 0 0 (MQ below (va_Qi (fun (r : Int32) (u : KS) => post r u.1 ∧ u.2.1 = J ∧ u.2.2 = Q ∧ WF Z N T u.2.2) (Bw D D2 ad N T) A) [.ref (ad h0), .int x1].toArray s 0 0 A) ad N T I_13 J Q 101 [(0, .ref (ad h0)), (1, .int x1), (2, .int x2_13), (3, .int x3_13), (4, .int x4_13), (5, .int x5_13)] [] := by
    intro I_13 x2_13 x3_13 x4_13 x5_13 hw hWF
    refine g_iload_n C dX11_readsRow_101 rfl 2 rfl ?_
    refine g_iconst (v := (1 : Int32)) C dX11_readsRow_102 (by decide) ?_
    refine g_aload_n C dX11_readsRow_103 rfl 0 rfl ?_
    refine g_getQ C dX11_readsRow_104 ft_326 z0 (hWF.q z0 0 rfl) ?_
    have zz14 := hWF.r z0 0 rfl
    refine g_iconst (v := (0 : Int32)) C dX11_readsRow_107 (by decide) ?_
    refine g_iald C dX11_readsRow_108 zz14 (by decide +kernel) ?_
    refine g_ishl C dX11_readsRow_109 ?_
    refine g_iconst (v := (1 : Int32)) C dX11_readsRow_110 (by decide) ?_
    refine g_isub C dX11_readsRow_111 ?_
    refine g_icmp_eq (tgt := 117) C dX11_readsRow_112 (by decide) (fun c15 => ?_) (fun c15 => ?_)
    · have hw := hw.1 c15
      refine g_aload_n C dX11_readsRow_117 rfl 0 rfl ?_
      refine g_getQ C dX11_readsRow_118 ft_448 z0 (hWF.q z0 23 rfl) ?_
      have zz16 := hWF.r z0 23 rfl
      refine g_aload_n C dX11_readsRow_121 rfl 0 rfl ?_
      refine g_getI C dX11_readsRow_122 ft_449 z0 ?_
      refine g_iload C dX11_readsRow_125 5 rfl ?_
      refine g_iload_n C dX11_readsRow_127 rfl 1 rfl ?_
      refine g_if_eq (tgt := 142) C dX11_readsRow_128 (by decide) (fun c17 => ?_) (fun c17 => ?_)
      · have hw := hw.1 c17
        refine g_iconst (v := (0 : Int32)) C dX11_readsRow_142 (by decide) ?_
        refine g_ior C dX11_readsRow_143 ?_
        refine g_iast C dX11_readsRow_144 zz16 hw.1 ?_
        have hw := hw.2
        refine g_iconst (v := (1 : Int32)) C dX11_readsRow_145 (by decide) ?_
        exact g_zret C dX11_readsRow_146 hr rfl ⟨hw, rfl, rfl, hWF⟩
      · have hw := hw.2 c17
        refine g_iconst (v := (1 : Int32)) C dX11_readsRow_131 (by decide) ?_
        refine g_iload_n C dX11_readsRow_132 rfl 3 rfl ?_
        refine g_iload C dX11_readsRow_133 4 rfl ?_
        refine g_callSi (As := [.int x3_13, .int x4_13]) C dX11_readsRow_135 ft_328 ft_329 (met_X11_linkOf l hWF  hw) ⟨rfl, rfl, Nat.le_of_ble_eq_true rfl, Nat.le_of_ble_eq_true rfl⟩ ⟨Nat.zero_le _, Nat.zero_le _⟩ rfl rfl (Nat.le_of_ble_eq_true rfl) (fun r18 I18 J18 Q18 hp => ?_)
        obtain ⟨hw, eI, eJ, eQ, hWF⟩ := hp
        have eI : I_13 = I18 := Eq.symm eI
        subst eI
        have eJ : J = J18 := Eq.symm eJ
        subst eJ
        have eQ : Q = Q18 := Eq.symm eQ
        subst eQ
        try dsimp only at hw hWF
        refine g_ishl C dX11_readsRow_138 ?_
        refine g_goto C dX11_readsRow_139 (tgt := 143) (by decide) ?_
        refine g_ior C dX11_readsRow_143 ?_
        refine g_iast C dX11_readsRow_144 zz16 hw.1 ?_
        have hw := hw.2
        refine g_iconst (v := (1 : Int32)) C dX11_readsRow_145 (by decide) ?_
        exact g_zret C dX11_readsRow_146 hr rfl ⟨hw, rfl, rfl, hWF⟩
    · have hw := hw.2 c15
      refine g_iconst (v := (0 : Int32)) C dX11_readsRow_115 (by decide) ?_
      exact g_zret C dX11_readsRow_116 hr rfl ⟨hw, rfl, rfl, hWF⟩
  have L12_u12 : ∀ (n12 : Nat) (I_1 : KI) (x2_1 : Int32) (x3_1 : Int32) (x4_1 : Int32) (x5_1 : Int32), wp_X11_readsRow_L12 Q h0 (fun I_13 x2_13 x3_13 x4_13 x5_13 => ((x2_13 = (((1 : Int32) <<< ((I_13 (rq Q h0 0) (0 : Int32).toNatClampNeg) &&& 31)) - (1 : Int32)) → ((x1 = 0 → (vp_in (I_13 h0 22) 8 ∧ post (1 : Int32) (sti I_13 (rq Q h0 23) (I_13 h0 22).toNatClampNeg (x5_13 ||| (0 : Int32))))) ∧ (¬ x1 = 0 → wp_X11_linkOf x3_13 x4_13 (fun r18 => (vp_in (I_13 h0 22) 8 ∧ post (1 : Int32) (sti I_13 (rq Q h0 23) (I_13 h0 22).toNatClampNeg (x5_13 ||| ((1 : Int32) <<< (r18 &&& 31))))))))) ∧ (¬ x2_13 = (((1 : Int32) <<< ((I_13 (rq Q h0 0) (0 : Int32).toNatClampNeg) &&& 31)) - (1 : Int32)) → post (0 : Int32) I_13))) n12 I_1 x2_1 x3_1 x4_1 x5_1 → WF Z N T Q → GG p l e ({ frames := 2, cells := 0, slots := 0, locals := 41 }) s m [.ref (ad h0), .int x1].toArray below meth c 7 A D D2 0 0 (MQ below (va_Qi (fun (r : Int32) (u : KS) => post r u.1 ∧ u.2.1 = J ∧ u.2.2 = Q ∧ WF Z N T u.2.2) (Bw D D2 ad N T) A) [.ref (ad h0), .int x1].toArray s 0 0 A) ad N T I_1 J Q 12 [(0, .ref (ad h0)), (1, .int x1), (2, .int x2_1), (3, .int x3_1), (4, .int x4_1), (5, .int x5_1)] [] := by
    intro n12
    induction n12 with
    | zero => intro I_1 x2_1 x3_1 x4_1 x5_1 hw; exact hw.elim
    | succ n12 ih_u12 =>
      intro I_1 x2_1 x3_1 x4_1 x5_1 hw hWF
      unfold wp_X11_readsRow_L12 at hw
      refine g_aload_n C dX11_readsRow_12 rfl 0 rfl ?_
      refine g_callVi (As := []) C dX11_readsRow_13 ft_350 z0 ft_446 ft_447 (met_X11_nodeHere l hWF z0 hw) ⟨rfl, rfl, Nat.le_of_ble_eq_true rfl, Nat.le_of_ble_eq_true rfl⟩ ⟨Nat.zero_le _, Nat.zero_le _⟩ rfl rfl (Nat.le_of_ble_eq_true rfl) (fun r20 I20 J20 Q20 hp => ?_)
      obtain ⟨hw, eJ, eQ, hWF⟩ := hp
      have eJ : J = J20 := Eq.symm eJ
      subst eJ
      have eQ : Q = Q20 := Eq.symm eQ
      subst eQ
      try dsimp only at hw hWF
      refine g_bipush (v := (-4 : Int32)) C dX11_readsRow_16 (by decide) ?_
      refine g_icmp_eq (tgt := 101) C dX11_readsRow_18 (by decide) (fun c21 => ?_) (fun c21 => ?_)
      · have hw := hw.1 c21
        exact K101_u12 I20 x2_1 x3_1 x4_1 x5_1 hw hWF
      · have hw := hw.2 c21
        refine g_iload_n C dX11_readsRow_21 rfl 2 rfl ?_
        refine g_aload_n C dX11_readsRow_22 rfl 0 rfl ?_
        refine g_callVi (As := []) C dX11_readsRow_23 ft_350 z0 ft_446 ft_447 (met_X11_nodeHere l hWF z0 hw) ⟨rfl, rfl, Nat.le_of_ble_eq_true rfl, Nat.le_of_ble_eq_true rfl⟩ ⟨Nat.zero_le _, Nat.zero_le _⟩ rfl rfl (Nat.le_of_ble_eq_true rfl) (fun r22 I22 J22 Q22 hp => ?_)
        obtain ⟨hw, eJ, eQ, hWF⟩ := hp
        have eJ : J = J22 := Eq.symm eJ
        subst eJ
        have eQ : Q = Q22 := Eq.symm eQ
        subst eQ
        try dsimp only at hw hWF
        refine g_callSi (As := [.int x2_1, .int r22]) C dX11_readsRow_26 ft_344 ft_345 (met_X11_has l hWF  hw) ⟨rfl, rfl, Nat.le_of_ble_eq_true rfl, Nat.le_of_ble_eq_true rfl⟩ ⟨Nat.zero_le _, Nat.zero_le _⟩ rfl rfl (Nat.le_of_ble_eq_true rfl) (fun r23 I23 J23 Q23 hp => ?_)
        obtain ⟨hw, eI, eJ, eQ, hWF⟩ := hp
        have eI : I22 = I23 := Eq.symm eI
        subst eI
        have eJ : J = J23 := Eq.symm eJ
        subst eJ
        have eQ : Q = Q23 := Eq.symm eQ
        subst eQ
        try dsimp only at hw hWF
        refine g_if_ne (tgt := 101) C dX11_readsRow_29 (by decide) (fun c24 => ?_) (fun c24 => ?_)
        · have hw := hw.1 c24
          exact K101_u12 I22 x2_1 x3_1 x4_1 x5_1 hw hWF
        · have hw := hw.2 c24
          refine g_aload_n C dX11_readsRow_32 rfl 0 rfl ?_
          refine g_callVi (As := []) C dX11_readsRow_33 ft_350 z0 ft_446 ft_447 (met_X11_nodeHere l hWF z0 hw) ⟨rfl, rfl, Nat.le_of_ble_eq_true rfl, Nat.le_of_ble_eq_true rfl⟩ ⟨Nat.zero_le _, Nat.zero_le _⟩ rfl rfl (Nat.le_of_ble_eq_true rfl) (fun r25 I25 J25 Q25 hp => ?_)
          obtain ⟨hw, eJ, eQ, hWF⟩ := hp
          have eJ : J = J25 := Eq.symm eJ
          subst eJ
          have eQ : Q = Q25 := Eq.symm eQ
          subst eQ
          try dsimp only at hw hWF
          refine g_istore (lv' := [(6, .int r25), (0, .ref (ad h0)), (1, .int x1), (2, .int x2_1), (3, .int x3_1), (4, .int x4_1), (5, .int x5_1)]) C dX11_readsRow_36 (by decide) rfl ?_
          refine g_iload C dX11_readsRow_38 6 rfl ?_
          refine g_iload C dX11_readsRow_40 5 rfl ?_
          refine g_bipush (v := (-4 : Int32)) C dX11_readsRow_42 (by decide) ?_
          refine g_icmp_ne (tgt := 51) C dX11_readsRow_44 (by decide) (fun c26 => ?_) (fun c26 => ?_)
          · have hw := hw.1 c26
            refine g_iconst (v := (1 : Int32)) C dX11_readsRow_51 (by decide) ?_
            refine g_iload C dX11_readsRow_52 5 rfl ?_
            refine g_iload C dX11_readsRow_54 0 rfl ?_
            refine g_callSi (As := [.int x4_1, .int r25]) C dX11_readsRow_56 ft_328 ft_329 (met_X11_linkOf l hWF  hw) ⟨rfl, rfl, Nat.le_of_ble_eq_true rfl, Nat.le_of_ble_eq_true rfl⟩ ⟨Nat.zero_le _, Nat.zero_le _⟩ rfl rfl (Nat.le_of_ble_eq_true rfl) (fun r27 I27 J27 Q27 hp => ?_)
            obtain ⟨hw, eI, eJ, eQ, hWF⟩ := hp
            have eI : I25 = I27 := Eq.symm eI
            subst eI
            have eJ : J = J27 := Eq.symm eJ
            subst eJ
            have eQ : Q = Q27 := Eq.symm eQ
            subst eQ
            try dsimp only at hw hWF
            refine g_ishl C dX11_readsRow_59 ?_
            refine g_ior C dX11_readsRow_60 ?_
            refine g_istore (lv' := [(5, .int (x5_1 ||| ((1 : Int32) <<< (r27 &&& 31)))), (6, .int r25), (0, .ref (ad h0)), (1, .int x1), (2, .int x2_1), (3, .int x3_1), (4, .int x4_1)]) C dX11_readsRow_61 (by decide) rfl ?_
            refine g_iload C dX11_readsRow_63 6 rfl ?_
            refine g_bipush (v := (-4 : Int32)) C dX11_readsRow_65 (by decide) ?_
            refine g_icmp_ne (tgt := 75) C dX11_readsRow_67 (by decide) (fun c28 => ?_) (fun c28 => ?_)
            · have hw := hw.1 c28
              refine g_iload_n C dX11_readsRow_75 rfl 5 rfl ?_
              refine g_istore_n (lv' := [(3, .int x3_1), (5, .int (x5_1 ||| ((1 : Int32) <<< (r27 &&& 31)))), (6, .int r25), (0, .ref (ad h0)), (1, .int x1), (2, .int x2_1), (4, .int x4_1)]) C dX11_readsRow_76 rfl (by decide) rfl ?_
              refine g_iload_n C dX11_readsRow_77 rfl 5 rfl ?_
              refine g_iconst (v := (1 : Int32)) C dX11_readsRow_78 (by decide) ?_
              refine g_iload C dX11_readsRow_79 2 rfl ?_
              refine g_ishl C dX11_readsRow_81 ?_
              refine g_ior C dX11_readsRow_82 ?_
              refine g_istore_n (lv' := [(2, .int (x2_1 ||| ((1 : Int32) <<< (r25 &&& 31)))), (3, .int x3_1), (5, .int (x5_1 ||| ((1 : Int32) <<< (r27 &&& 31)))), (6, .int r25), (0, .ref (ad h0)), (1, .int x1), (4, .int x4_1)]) C dX11_readsRow_83 rfl (by decide) rfl ?_
              refine g_iload C dX11_readsRow_84 3 rfl ?_
              refine g_istore (lv' := [(4, .int r25), (2, .int (x2_1 ||| ((1 : Int32) <<< (r25 &&& 31)))), (3, .int x3_1), (5, .int (x5_1 ||| ((1 : Int32) <<< (r27 &&& 31)))), (6, .int r25), (0, .ref (ad h0)), (1, .int x1)]) C dX11_readsRow_86 (by decide) rfl ?_
              refine g_aload_n C dX11_readsRow_88 rfl 5 rfl ?_
              refine g_dup C dX11_readsRow_89 rfl ?_
              refine g_getI C dX11_readsRow_90 ft_442 z0 ?_
              refine g_iconst (v := (1 : Int32)) C dX11_readsRow_93 (by decide) ?_
              refine g_iadd C dX11_readsRow_94 ?_
              refine g_putI C dX11_readsRow_95 ft_443 z0 ?_
              refine g_goto C dX11_readsRow_98 (tgt := 12) (by decide) ?_
              refine g_sub [5, 6, 1, 2, 0, 3] rfl ?_
              exact ih_u12 (sti I25 h0 21 ((I25 h0 21) + (1 : Int32))) (x2_1 ||| ((1 : Int32) <<< (r25 &&& 31))) x3_1 r25 (x5_1 ||| ((1 : Int32) <<< (r27 &&& 31))) hw hWF
            · have hw := hw.2 c28
              refine g_iload C dX11_readsRow_70 1 rfl ?_
              refine g_goto C dX11_readsRow_72 (tgt := 76) (by decide) ?_
              refine g_istore_n (lv' := [(3, .int r25), (5, .int (x5_1 ||| ((1 : Int32) <<< (r27 &&& 31)))), (6, .int r25), (0, .ref (ad h0)), (1, .int x1), (2, .int x2_1), (4, .int x4_1)]) C dX11_readsRow_76 rfl (by decide) rfl ?_
              refine g_iload_n C dX11_readsRow_77 rfl 5 rfl ?_
              refine g_iconst (v := (1 : Int32)) C dX11_readsRow_78 (by decide) ?_
              refine g_iload C dX11_readsRow_79 2 rfl ?_
              refine g_ishl C dX11_readsRow_81 ?_
              refine g_ior C dX11_readsRow_82 ?_
              refine g_istore_n (lv' := [(2, .int (x2_1 ||| ((1 : Int32) <<< (r25 &&& 31)))), (3, .int r25), (5, .int (x5_1 ||| ((1 : Int32) <<< (r27 &&& 31)))), (6, .int r25), (0, .ref (ad h0)), (1, .int x1), (4, .int x4_1)]) C dX11_readsRow_83 rfl (by decide) rfl ?_
              refine g_iload C dX11_readsRow_84 3 rfl ?_
              refine g_istore (lv' := [(4, .int r25), (2, .int (x2_1 ||| ((1 : Int32) <<< (r25 &&& 31)))), (3, .int r25), (5, .int (x5_1 ||| ((1 : Int32) <<< (r27 &&& 31)))), (6, .int r25), (0, .ref (ad h0)), (1, .int x1)]) C dX11_readsRow_86 (by decide) rfl ?_
              refine g_aload_n C dX11_readsRow_88 rfl 5 rfl ?_
              refine g_dup C dX11_readsRow_89 rfl ?_
              refine g_getI C dX11_readsRow_90 ft_442 z0 ?_
              refine g_iconst (v := (1 : Int32)) C dX11_readsRow_93 (by decide) ?_
              refine g_iadd C dX11_readsRow_94 ?_
              refine g_putI C dX11_readsRow_95 ft_443 z0 ?_
              refine g_goto C dX11_readsRow_98 (tgt := 12) (by decide) ?_
              refine g_sub [5, 6, 1, 2, 0, 3] rfl ?_
              exact ih_u12 (sti I25 h0 21 ((I25 h0 21) + (1 : Int32))) (x2_1 ||| ((1 : Int32) <<< (r25 &&& 31))) r25 r25 (x5_1 ||| ((1 : Int32) <<< (r27 &&& 31))) hw hWF
          · have hw := hw.2 c26
            refine g_iconst (v := (0 : Int32)) C dX11_readsRow_47 (by decide) ?_
            refine g_goto C dX11_readsRow_48 (tgt := 60) (by decide) ?_
            refine g_ior C dX11_readsRow_60 ?_
            refine g_istore (lv' := [(5, .int (x5_1 ||| (0 : Int32))), (6, .int r25), (0, .ref (ad h0)), (1, .int x1), (2, .int x2_1), (3, .int x3_1), (4, .int x4_1)]) C dX11_readsRow_61 (by decide) rfl ?_
            refine g_iload C dX11_readsRow_63 6 rfl ?_
            refine g_bipush (v := (-4 : Int32)) C dX11_readsRow_65 (by decide) ?_
            refine g_icmp_ne (tgt := 75) C dX11_readsRow_67 (by decide) (fun c29 => ?_) (fun c29 => ?_)
            · have hw := hw.1 c29
              refine g_iload_n C dX11_readsRow_75 rfl 5 rfl ?_
              refine g_istore_n (lv' := [(3, .int x3_1), (5, .int (x5_1 ||| (0 : Int32))), (6, .int r25), (0, .ref (ad h0)), (1, .int x1), (2, .int x2_1), (4, .int x4_1)]) C dX11_readsRow_76 rfl (by decide) rfl ?_
              refine g_iload_n C dX11_readsRow_77 rfl 5 rfl ?_
              refine g_iconst (v := (1 : Int32)) C dX11_readsRow_78 (by decide) ?_
              refine g_iload C dX11_readsRow_79 2 rfl ?_
              refine g_ishl C dX11_readsRow_81 ?_
              refine g_ior C dX11_readsRow_82 ?_
              refine g_istore_n (lv' := [(2, .int (x2_1 ||| ((1 : Int32) <<< (r25 &&& 31)))), (3, .int x3_1), (5, .int (x5_1 ||| (0 : Int32))), (6, .int r25), (0, .ref (ad h0)), (1, .int x1), (4, .int x4_1)]) C dX11_readsRow_83 rfl (by decide) rfl ?_
              refine g_iload C dX11_readsRow_84 3 rfl ?_
              refine g_istore (lv' := [(4, .int r25), (2, .int (x2_1 ||| ((1 : Int32) <<< (r25 &&& 31)))), (3, .int x3_1), (5, .int (x5_1 ||| (0 : Int32))), (6, .int r25), (0, .ref (ad h0)), (1, .int x1)]) C dX11_readsRow_86 (by decide) rfl ?_
              refine g_aload_n C dX11_readsRow_88 rfl 5 rfl ?_
              refine g_dup C dX11_readsRow_89 rfl ?_
              refine g_getI C dX11_readsRow_90 ft_442 z0 ?_
              refine g_iconst (v := (1 : Int32)) C dX11_readsRow_93 (by decide) ?_
              refine g_iadd C dX11_readsRow_94 ?_
              refine g_putI C dX11_readsRow_95 ft_443 z0 ?_
              refine g_goto C dX11_readsRow_98 (tgt := 12) (by decide) ?_
              refine g_sub [5, 6, 1, 2, 0, 3] rfl ?_
              exact ih_u12 (sti I25 h0 21 ((I25 h0 21) + (1 : Int32))) (x2_1 ||| ((1 : Int32) <<< (r25 &&& 31))) x3_1 r25 (x5_1 ||| (0 : Int32)) hw hWF
            · have hw := hw.2 c29
              refine g_iload C dX11_readsRow_70 1 rfl ?_
              refine g_goto C dX11_readsRow_72 (tgt := 76) (by decide) ?_
              refine g_istore_n (lv' := [(3, .int r25), (5, .int (x5_1 ||| (0 : Int32))), (6, .int r25), (0, .ref (ad h0)), (1, .int x1), (2, .int x2_1), (4, .int x4_1)]) C dX11_readsRow_76 rfl (by decide) rfl ?_
              refine g_iload_n C dX11_readsRow_77 rfl 5 rfl ?_
              refine g_iconst (v := (1 : Int32)) C dX11_readsRow_78 (by decide) ?_
              refine g_iload C dX11_readsRow_79 2 rfl ?_
              refine g_ishl C dX11_readsRow_81 ?_
              refine g_ior C dX11_readsRow_82 ?_
              refine g_istore_n (lv' := [(2, .int (x2_1 ||| ((1 : Int32) <<< (r25 &&& 31)))), (3, .int r25), (5, .int (x5_1 ||| (0 : Int32))), (6, .int r25), (0, .ref (ad h0)), (1, .int x1), (4, .int x4_1)]) C dX11_readsRow_83 rfl (by decide) rfl ?_
              refine g_iload C dX11_readsRow_84 3 rfl ?_
              refine g_istore (lv' := [(4, .int r25), (2, .int (x2_1 ||| ((1 : Int32) <<< (r25 &&& 31)))), (3, .int r25), (5, .int (x5_1 ||| (0 : Int32))), (6, .int r25), (0, .ref (ad h0)), (1, .int x1)]) C dX11_readsRow_86 (by decide) rfl ?_
              refine g_aload_n C dX11_readsRow_88 rfl 5 rfl ?_
              refine g_dup C dX11_readsRow_89 rfl ?_
              refine g_getI C dX11_readsRow_90 ft_442 z0 ?_
              refine g_iconst (v := (1 : Int32)) C dX11_readsRow_93 (by decide) ?_
              refine g_iadd C dX11_readsRow_94 ?_
              refine g_putI C dX11_readsRow_95 ft_443 z0 ?_
              refine g_goto C dX11_readsRow_98 (tgt := 12) (by decide) ?_
              refine g_sub [5, 6, 1, 2, 0, 3] rfl ?_
              exact ih_u12 (sti I25 h0 21 ((I25 h0 21) + (1 : Int32))) (x2_1 ||| ((1 : Int32) <<< (r25 &&& 31))) r25 r25 (x5_1 ||| (0 : Int32)) hw hWF
  obtain ⟨n_u12, hw⟩ := hw
  refine g_sub [4, 5, 3, 2, 1, 0] rfl ?_
  exact L12_u12 n_u12 I (0 : Int32) (-4 : Int32) (-4 : Int32) (0 : Int32) hw hWF
