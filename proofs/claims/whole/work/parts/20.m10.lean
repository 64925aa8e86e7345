def wp_X11_laysViews_L9 (Qf_2 : KQ) (f0_2 : Nat) (f2_2 : Int32) (k35 : KI → Prop) : Nat → KI → Int32 → Prop
  | 0, _, _ => False
  | n9 + 1, I_2, x3_2 => ((f2_2 ≤ x3_2 → k35 I_2) ∧ (¬ f2_2 ≤ x3_2 → ((¬ x3_2 = 0 → (vp_in x3_2 6 ∧ wp_X11_laysViews_L9 Qf_2 f0_2 f2_2 k35 n9 (sti I_2 (rq Qf_2 f0_2 15) x3_2.toNatClampNeg (1 : Int32)) (x3_2 + (1 : Int32)))) ∧ (x3_2 = 0 → (vp_in x3_2 6 ∧ wp_X11_laysViews_L9 Qf_2 f0_2 f2_2 k35 n9 (sti I_2 (rq Qf_2 f0_2 15) x3_2.toNatClampNeg (0 : Int32)) (x3_2 + (1 : Int32)))))))
def wp_X11_laysViews_L83 (Qf_15 : KQ) (f0_15 : Nat) (f5_15 : Int32) (f6_15 : Int32) (k137 : KI → Prop) : Nat → KI → Int32 → Prop
  | 0, _, _ => False
  | n83 + 1, I_15, x7_15 => ((f6_15 ≤ x7_15 → k137 I_15) ∧ (¬ f6_15 ≤ x7_15 → (vp_in f6_15 6 ∧ ((0 ≤ (I_15 (rq Qf_15 f0_15 16) f6_15.toNatClampNeg) → k137 I_15) ∧ (¬ 0 ≤ (I_15 (rq Qf_15 f0_15 16) f6_15.toNatClampNeg) → wp_X11_areAlike I_15 Qf_15 f0_15 x7_15 f6_15 f5_15 (fun r20 => ((r20 = 0 → (vp_in f6_15 6 ∧ wp_X11_laysViews_L83 Qf_15 f0_15 f5_15 f6_15 k137 n83 (sti I_15 (rq Qf_15 f0_15 16) f6_15.toNatClampNeg (-1 : Int32)) (x7_15 + (1 : Int32)))) ∧ (¬ r20 = 0 → (vp_in x7_15 6 ∧ (vp_in f6_15 6 ∧ wp_X11_laysViews_L83 Qf_15 f0_15 f5_15 f6_15 k137 n83 (sti I_15 (rq Qf_15 f0_15 16) f6_15.toNatClampNeg (I_15 (rq Qf_15 f0_15 16) x7_15.toNatClampNeg)) (x7_15 + (1 : Int32))))))))))))
def wp_X11_laysViews_L66 (Qf_12 : KQ) (f0_12 : Nat) (f2_12 : Int32) (f5_12 : Int32) (k164 : KI → Int32 → Prop) : Nat → KI → Int32 → Int32 → Prop
  | 0, _, _, _ => False
  | n66 + 1, I_12, x3_12, x6_12 => ((f2_12 ≤ x6_12 → k164 I_12 x3_12) ∧ (¬ f2_12 ≤ x6_12 → (vp_in x6_12 6 ∧ (∃ q83, wp_X11_laysViews_L83 Qf_12 f0_12 f5_12 x6_12 (fun I_24 => (vp_in x6_12 6 ∧ ((0 ≤ (I_24 (rq Qf_12 f0_12 16) x6_12.toNatClampNeg) → wp_X11_laysViews_L66 Qf_12 f0_12 f2_12 f5_12 k164 n66 I_24 x3_12 (x6_12 + (1 : Int32))) ∧ (¬ 0 ≤ (I_24 (rq Qf_12 f0_12 16) x6_12.toNatClampNeg) → (vp_in x6_12 6 ∧ wp_X11_laysViews_L66 Qf_12 f0_12 f2_12 f5_12 k164 n66 (sti I_24 (rq Qf_12 f0_12 16) x6_12.toNatClampNeg x3_12) (x3_12 + (1 : Int32)) (x6_12 + (1 : Int32))))))) q83 (sti I_12 (rq Qf_12 f0_12 16) x6_12.toNatClampNeg (-1 : Int32)) (0 : Int32)))))
def wp_X11_laysViews_L40 (Qf_8 : KQ) (f0_8 : Nat) (f1_8 : Int32) (f2_8 : Int32) (post : Int32 → KI → Prop) : Nat → KI → Int32 → Int32 → Prop
  | 0, _, _, _ => False
  | n40 + 1, I_8, x3_8, x4_8 => ((f1_8 ≤ x4_8 → post x3_8 I_8) ∧ (¬ f1_8 ≤ x4_8 → wp_X11_linksOf I_8 Qf_8 f0_8 ((I_8 (rq Qf_8 f0_8 0) (4 : Int32).toNatClampNeg) + x4_8) (fun r11 => (∃ q66, wp_X11_laysViews_L66 Qf_8 f0_8 f2_8 r11 (fun I_37 x3_37 => wp_X11_copies I_37 (rq Qf_8 f0_8 16) 6 (0 : Int32) (rq Qf_8 f0_8 15) 6 (0 : Int32) f2_8 (fun I40 => wp_X11_laysViews_L40 Qf_8 f0_8 f1_8 f2_8 post n40 I40 x3_37 (x4_8 + (1 : Int32)))) q66 I_8 (0 : Int32) (0 : Int32)))))
def wp_X11_laysViews (I : KI) (Q : KQ) (h0 : Nat) (x1 : Int32) (post : Int32 → KI → Prop) : Prop := (∃ q9, wp_X11_laysViews_L9 Q h0 (I (rq Q h0 0) (0 : Int32).toNatClampNeg) (fun I_7 => (∃ q40, wp_X11_laysViews_L40 Q h0 x1 (I (rq Q h0 0) (0 : Int32).toNatClampNeg) post q40 I_7 (2 : Int32) (0 : Int32))) q9 I (0 : Int32))
set_option maxHeartbeats 4000000 in
set_option maxRecDepth 100000 in
theorem met_X11_laysViews {Z : Nat → Prop} {A : Nat → Prop} {D : va_G} {D2 : Nat → ClassId} {ad : Nat → Nat} {N : Nat} {T : Nat → Nat × Nat} (l : Launch) {I : KI} {J : KJ} {Q : KQ} {h0 : Nat} {x1 : Int32} {post : Int32 → KI → Prop} (hWF : WF Z N T Q) (z0 : OKr Z N T h0 (11, 0)) (hw : wp_X11_laysViews I Q h0 x1 post) : Met l yX11_laysViews (.code yX11_laysViews cX11_laysViews 8 (some .int) :: BIG) ({ frames := 2, cells := 0, slots := 0, locals := 50 }) (Pr D D2 A ad N T I J Q [.ref (ad h0), .int x1]) (va_Qi (fun (r : Int32) (u : KS) => post r u.1 ∧ u.2.1 = J ∧ u.2.2 = Q ∧ WF Z N T u.2.2) (Bw D D2 ad N T) A) 0 0 A := by
  refine Met_GG (lv0 := [(0, .ref (ad h0)), (1, .int x1)]) (by decide +kernel) [.ref (ad h0), .int x1] (Nat.le_of_ble_eq_true rfl) rfl ?_
  intro p e s m below meth c C hr
  have C : CX p s m [.ref (ad h0), .int x1].toArray meth c cX11_laysViews 8 RX11 A D D2 := C
  unfold wp_X11_laysViews at hw
  refine g_aload_n C dX11_laysViews_0 rfl 0 rfl ?_
  refine g_getQ C dX11_laysViews_1 ft_363 z0 (hWF.q z0 0 rfl) ?_
  have zz1 := hWF.r z0 0 rfl
  refine g_iconst (v := (0 : Int32)) C dX11_laysViews_4 (by decide) ?_
  refine g_iald C dX11_laysViews_5 zz1 (vp_lit (by decide +kernel)) ?_
  refine g_istore_n (lv' := [(2, .int (I (rq Q h0 0) (0 : Int32).toNatClampNeg)), (0, .ref (ad h0)), (1, .int x1)]) C dX11_laysViews_6 rfl (by decide) rfl ?_
  refine g_iconst (v := (0 : Int32)) C dX11_laysViews_7 (by decide) ?_
  refine g_istore_n (lv' := [(3, .int (0 : Int32)), (2, .int (I (rq Q h0 0) (0 : Int32).toNatClampNeg)), (0, .ref (ad h0)), (1, .int x1)]) C dX11_laysViews_8 rfl (by decide) rfl ?_
  have K35_u6 : ∀ (I_7 : KI), ((∃ q40, wp_X11_laysViews_L40 Q h0 x1 (I (rq Q h0 0) (0 : Int32).toNatClampNeg) post q40 I_7 (2 : Int32) (0 : Int32))) → WF Z N T Q → GG p l e ({ frames := 2, cells := 0, slots := 0, locals := 50 }) s m [.ref (ad h0), .int x1].toArray below meth c 8 A D D2 0 0 (MQ below (va_Qi (fun (r : Int32) (u : KS) => post r u.1 ∧ u.2.1 = J ∧ u.2.2 = Q ∧ WF Z N T u.2.2) (Bw D D2 ad N T) A) [.ref (ad h0), .int x1].toArray s 0 0 A) ad N T I_7 J Q 35 [(0, .ref (ad h0)), (1, .int x1), (2, .int (I (rq Q h0 0) (0 : Int32).toNatClampNeg))] [] := by
    intro I_7 hw hWF
    refine g_iconst (v := (2 : Int32)) C dX11_laysViews_35 (by decide) ?_
    refine g_istore_n (lv' := [(3, .int (2 : Int32)), (0, .ref (ad h0)), (1, .int x1), (2, .int (I (rq Q h0 0) (0 : Int32).toNatClampNeg))]) C dX11_laysViews_36 rfl (by decide) rfl ?_
    refine g_iconst (v := (0 : Int32)) C dX11_laysViews_37 (by decide) ?_
    refine g_istore (lv' := [(4, .int (0 : Int32)), (3, .int (2 : Int32)), (0, .ref (ad h0)), (1, .int x1), (2, .int (I (rq Q h0 0) (0 : Int32).toNatClampNeg))]) C dX11_laysViews_38 (by decide) rfl ?_
    have L40_u58 : ∀ (n40 : Nat) (I_8 : KI) (x3_8 : Int32) (x4_8 : Int32), wp_X11_laysViews_L40 Q h0 x1 (I (rq Q h0 0) (0 : Int32).toNatClampNeg) post n40 I_8 x3_8 x4_8 → WF Z N T Q → GG p l e ({ frames := 2, cells := 0, slots := 0, locals := 50 }) s m [.ref (ad h0), .int x1].toArray below meth c 8 A D D2 0 0 (MQ below (va_Qi (fun (r : Int32) (u : KS) => post r u.1 ∧ u.2.1 = J ∧ u.2.2 = Q ∧ WF Z N T u.2.2) (Bw D D2 ad N T) A) [.ref (ad h0), .int x1].toArray s 0 0 A) ad N T I_8 J Q 40 [(0, .ref (ad h0)), (1, .int x1), (2, .int (I (rq Q h0 0) (0 : Int32).toNatClampNeg)), (3, .int x3_8), (4, .int x4_8)] [] := by
      intro n40
      induction n40 with
      | zero => intro I_8 x3_8 x4_8 hw; exact hw.elim
      | succ n40 ih_u58 =>
        intro I_8 x3_8 x4_8 hw hWF
        unfold wp_X11_laysViews_L40 at hw
        refine g_iload C dX11_laysViews_40 4 rfl ?_
        refine g_iload_n C dX11_laysViews_42 rfl 1 rfl ?_
        refine g_icmp_ge (tgt := 184) C dX11_laysViews_43 (by decide) (fun c60 => ?_) (fun c60 => ?_)
        · have hw := hw.1 c60
          refine g_iload_n C dX11_laysViews_184 rfl 3 rfl ?_
          exact g_iret C dX11_laysViews_185 hr ⟨hw, rfl, rfl, hWF⟩
        · have hw := hw.2 c60
          refine g_aload_n C dX11_laysViews_46 rfl 0 rfl ?_
          refine g_aload_n C dX11_laysViews_47 rfl 0 rfl ?_
          refine g_getQ C dX11_laysViews_48 ft_363 z0 (hWF.q z0 0 rfl) ?_
          have zz61 := hWF.r z0 0 rfl
          refine g_iconst (v := (4 : Int32)) C dX11_laysViews_51 (by decide) ?_
          refine g_iald C dX11_laysViews_52 zz61 (vp_lit (by decide +kernel)) ?_
          refine g_iload C dX11_laysViews_53 4 rfl ?_
          refine g_iadd C dX11_laysViews_55 ?_
          refine g_callVi (As := [.int ((I_8 (rq Q h0 0) (4 : Int32).toNatClampNeg) + x4_8)]) C dX11_laysViews_56 ft_387 z0 ft_385 ft_386 (met_X11_linksOf l hWF z0 hw) ⟨rfl, rfl, Nat.le_of_ble_eq_true rfl, Nat.le_of_ble_eq_true rfl⟩ ⟨Nat.zero_le _, Nat.zero_le _⟩ rfl rfl (Nat.le_of_ble_eq_true rfl) (fun r62 I62 J62 Q62 hp => ?_)
          obtain ⟨hw, eI, eJ, eQ, hWF⟩ := hp
          have eI : I_8 = I62 := Eq.symm eI
          subst eI
          have eJ : J = J62 := Eq.symm eJ
          subst eJ
          have eQ : Q = Q62 := Eq.symm eQ
          subst eQ
          try dsimp only at hw hWF
          refine g_istore (lv' := [(5, .int r62), (0, .ref (ad h0)), (1, .int x1), (2, .int (I (rq Q h0 0) (0 : Int32).toNatClampNeg)), (3, .int x3_8), (4, .int x4_8)]) C dX11_laysViews_59 (by decide) rfl ?_
          refine g_iconst (v := (0 : Int32)) C dX11_laysViews_61 (by decide) ?_
          refine g_istore_n (lv' := [(3, .int (0 : Int32)), (5, .int r62), (0, .ref (ad h0)), (1, .int x1), (2, .int (I (rq Q h0 0) (0 : Int32).toNatClampNeg)), (4, .int x4_8)]) C dX11_laysViews_62 rfl (by decide) rfl ?_
          refine g_iconst (v := (0 : Int32)) C dX11_laysViews_63 (by decide) ?_
          refine g_istore (lv' := [(6, .int (0 : Int32)), (3, .int (0 : Int32)), (5, .int r62), (0, .ref (ad h0)), (1, .int x1), (2, .int (I (rq Q h0 0) (0 : Int32).toNatClampNeg)), (4, .int x4_8)]) C dX11_laysViews_64 (by decide) rfl ?_
          have K164_u64 : ∀ (I_65 : KI) (x3_65 : Int32), (wp_X11_copies I_65 (rq Q h0 16) 6 (0 : Int32) (rq Q h0 15) 6 (0 : Int32) (I (rq Q h0 0) (0 : Int32).toNatClampNeg) (fun I68 => wp_X11_laysViews_L40 Q h0 x1 (I (rq Q h0 0) (0 : Int32).toNatClampNeg) post n40 I68 x3_65 (x4_8 + (1 : Int32)))) → WF Z N T Q → GG p l e ({ frames := 2, cells := 0, slots := 0, locals := 50 }) s m [.ref (ad h0), .int x1].toArray below meth c 8 A D D2 0 0 (MQ below (va_Qi (fun (r : Int32) (u : KS) => post r u.1 ∧ u.2.1 = J ∧ u.2.2 = Q ∧ WF Z N T u.2.2) (Bw D D2 ad N T) A) [.ref (ad h0), .int x1].toArray s 0 0 A) ad N T I_65 J Q 164 [(0, .ref (ad h0)), (1, .int x1), (2, .int (I (rq Q h0 0) (0 : Int32).toNatClampNeg)), (3, .int x3_65), (4, .int x4_8)] [] := by
            intro I_65 x3_65 hw hWF
            refine g_aload_n C dX11_laysViews_164 rfl 0 rfl ?_
            refine g_getQ C dX11_laysViews_165 ft_453 z0 (hWF.q z0 16 rfl) ?_
            have zz66 := hWF.r z0 16 rfl
            refine g_iconst (v := (0 : Int32)) C dX11_laysViews_168 (by decide) ?_
            refine g_aload_n C dX11_laysViews_169 rfl 0 rfl ?_
            refine g_getQ C dX11_laysViews_170 ft_452 z0 (hWF.q z0 15 rfl) ?_
            have zz67 := hWF.r z0 15 rfl
            refine g_iconst (v := (0 : Int32)) C dX11_laysViews_173 (by decide) ?_
            refine g_iload_n C dX11_laysViews_174 rfl 2 rfl ?_
            refine g_callSv (As := [.ref (ad (rq Q h0 16)), .int (0 : Int32), .ref (ad (rq Q h0 15)), .int (0 : Int32), .int (I (rq Q h0 0) (0 : Int32).toNatClampNeg)]) C dX11_laysViews_175 ft_372 ft_373 (met_X11_copies l hWF zz66 zz67 hw) ⟨rfl, rfl, Nat.le_of_ble_eq_true rfl, Nat.le_of_ble_eq_true rfl⟩ ⟨Nat.zero_le _, Nat.zero_le _⟩ rfl rfl (Nat.le_of_ble_eq_true rfl) (fun I68 J68 Q68 hp => ?_)
            obtain ⟨hw, eJ, eQ, hWF⟩ := hp
            have eJ : J = J68 := Eq.symm eJ
            subst eJ
            have eQ : Q = Q68 := Eq.symm eQ
            subst eQ
            try dsimp only at hw hWF
            refine g_iinc (v := (x4_8 + (1 : Int32))) (lv' := [(4, .int (x4_8 + (1 : Int32))), (0, .ref (ad h0)), (1, .int x1), (2, .int (I (rq Q h0 0) (0 : Int32).toNatClampNeg)), (3, .int x3_65)]) C dX11_laysViews_178 (q := 4) rfl rfl (by decide) rfl ?_
            refine g_goto C dX11_laysViews_181 (tgt := 40) (by decide) ?_
            refine g_sub [1, 2, 3, 4, 0] rfl ?_
            exact ih_u58 I68 x3_65 (x4_8 + (1 : Int32)) hw hWF
          have L66_u64 : ∀ (n66 : Nat) (I_12 : KI) (x3_12 : Int32) (x6_12 : Int32), wp_X11_laysViews_L66 Q h0 (I (rq Q h0 0) (0 : Int32).toNatClampNeg) r62 (fun I_65 x3_65 => wp_X11_copies I_65 (rq Q h0 16) 6 (0 : Int32) (rq Q h0 15) 6 (0 : Int32) (I (rq Q h0 0) (0 : Int32).toNatClampNeg) (fun I68 => wp_X11_laysViews_L40 Q h0 x1 (I (rq Q h0 0) (0 : Int32).toNatClampNeg) post n40 I68 x3_65 (x4_8 + (1 : Int32)))) n66 I_12 x3_12 x6_12 → WF Z N T Q → GG p l e ({ frames := 2, cells := 0, slots := 0, locals := 50 }) s m [.ref (ad h0), .int x1].toArray below meth c 8 A D D2 0 0 (MQ below (va_Qi (fun (r : Int32) (u : KS) => post r u.1 ∧ u.2.1 = J ∧ u.2.2 = Q ∧ WF Z N T u.2.2) (Bw D D2 ad N T) A) [.ref (ad h0), .int x1].toArray s 0 0 A) ad N T I_12 J Q 66 [(0, .ref (ad h0)), (1, .int x1), (2, .int (I (rq Q h0 0) (0 : Int32).toNatClampNeg)), (3, .int x3_12), (4, .int x4_8), (5, .int r62), (6, .int x6_12)] [] := by
            intro n66
            induction n66 with
            | zero => intro I_12 x3_12 x6_12 hw; exact hw.elim
            | succ n66 ih_u64 =>
              intro I_12 x3_12 x6_12 hw hWF
              unfold wp_X11_laysViews_L66 at hw
              refine g_iload C dX11_laysViews_66 6 rfl ?_
              refine g_iload_n C dX11_laysViews_68 rfl 2 rfl ?_
              refine g_icmp_ge (tgt := 164) C dX11_laysViews_69 (by decide) (fun c70 => ?_) (fun c70 => ?_)
              · have hw := hw.1 c70
                refine g_sub [0, 1, 2, 3, 4] rfl ?_
                exact K164_u64 I_12 x3_12 hw hWF
              · have hw := hw.2 c70
                refine g_aload_n C dX11_laysViews_72 rfl 0 rfl ?_
                refine g_getQ C dX11_laysViews_73 ft_453 z0 (hWF.q z0 16 rfl) ?_
                have zz71 := hWF.r z0 16 rfl
                refine g_iload C dX11_laysViews_76 6 rfl ?_
                refine g_iconst (v := (-1 : Int32)) C dX11_laysViews_78 (by decide) ?_
                refine g_iast C dX11_laysViews_79 zz71 hw.1 ?_
                have hw := hw.2
                refine g_iconst (v := (0 : Int32)) C dX11_laysViews_80 (by decide) ?_
                refine g_istore (lv' := [(7, .int (0 : Int32)), (0, .ref (ad h0)), (1, .int x1), (2, .int (I (rq Q h0 0) (0 : Int32).toNatClampNeg)), (3, .int x3_12), (4, .int x4_8), (5, .int r62), (6, .int x6_12)]) C dX11_laysViews_81 (by decide) rfl ?_
                have K137_u73 : ∀ (I_74 : KI), ((vp_in x6_12 6 ∧ ((0 ≤ (I_74 (rq Q h0 16) x6_12.toNatClampNeg) → wp_X11_laysViews_L66 Q h0 (I (rq Q h0 0) (0 : Int32).toNatClampNeg) r62 (fun I_65 x3_65 => wp_X11_copies I_65 (rq Q h0 16) 6 (0 : Int32) (rq Q h0 15) 6 (0 : Int32) (I (rq Q h0 0) (0 : Int32).toNatClampNeg) (fun I68 => wp_X11_laysViews_L40 Q h0 x1 (I (rq Q h0 0) (0 : Int32).toNatClampNeg) post n40 I68 x3_65 (x4_8 + (1 : Int32)))) n66 I_74 x3_12 (x6_12 + (1 : Int32))) ∧ (¬ 0 ≤ (I_74 (rq Q h0 16) x6_12.toNatClampNeg) → (vp_in x6_12 6 ∧ wp_X11_laysViews_L66 Q h0 (I (rq Q h0 0) (0 : Int32).toNatClampNeg) r62 (fun I_65 x3_65 => wp_X11_copies I_65 (rq Q h0 16) 6 (0 : Int32) (rq Q h0 15) 6 (0 : Int32) (I (rq Q h0 0) (0 : Int32).toNatClampNeg) (fun I68 => wp_X11_laysViews_L40 Q h0 x1 (I (rq Q h0 0) (0 : Int32).toNatClampNeg) post n40 I68 x3_65 (x4_8 + (1 : Int32)))) n66 (sti I_74 (rq Q h0 16) x6_12.toNatClampNeg x3_12) (x3_12 + (1 : Int32)) (x6_12 + (1 : Int32))))))) → WF Z N T Q → GG p l e ({ frames := 2, cells := 0, slots := 0, locals := 50 }) s m [.ref (ad h0), .int x1].toArray below meth c 8 A D D2 0 0 (MQ below (va_Qi (fun (r : Int32) (u : KS) => post r u.1 ∧ u.2.1 = J ∧ u.2.2 = Q ∧ WF Z N T u.2.2) (Bw D D2 ad N T) A) [.ref (ad h0), .int x1].toArray s 0 0 A) ad N T I_74 J Q 137 [(0, .ref (ad h0)), (1, .int x1), (2, .int (I (rq Q h0 0) (0 : Int32).toNatClampNeg)), (3, .int x3_12), (4, .int x4_8), (5, .int r62), (6, .int x6_12)] [] := by
                  intro I_74 hw hWF
                  refine g_aload_n C dX11_laysViews_137 rfl 0 rfl ?_
                  refine g_getQ C dX11_laysViews_138 ft_453 z0 (hWF.q z0 16 rfl) ?_
                  have zz75 := hWF.r z0 16 rfl
                  refine g_iload C dX11_laysViews_141 6 rfl ?_
                  refine g_iald C dX11_laysViews_143 zz75 hw.1 ?_
                  have hw := hw.2
                  refine g_if_ge (tgt := 158) C dX11_laysViews_144 (by decide) (fun c76 => ?_) (fun c76 => ?_)
                  · have hw := hw.1 c76
                    refine g_iinc (v := (x6_12 + (1 : Int32))) (lv' := [(6, .int (x6_12 + (1 : Int32))), (0, .ref (ad h0)), (1, .int x1), (2, .int (I (rq Q h0 0) (0 : Int32).toNatClampNeg)), (3, .int x3_12), (4, .int x4_8), (5, .int r62)]) C dX11_laysViews_158 (q := 6) rfl rfl (by decide) rfl ?_
                    refine g_goto C dX11_laysViews_161 (tgt := 66) (by decide) ?_
                    refine g_sub [1, 2, 3, 4, 5, 6, 0] rfl ?_
                    exact ih_u64 I_74 x3_12 (x6_12 + (1 : Int32)) hw hWF
                  · have hw := hw.2 c76
                    refine g_aload_n C dX11_laysViews_147 rfl 0 rfl ?_
                    refine g_getQ C dX11_laysViews_148 ft_453 z0 (hWF.q z0 16 rfl) ?_
                    have zz77 := hWF.r z0 16 rfl
                    refine g_iload C dX11_laysViews_151 6 rfl ?_
                    refine g_iload_n C dX11_laysViews_153 rfl 3 rfl ?_
                    refine g_iast C dX11_laysViews_154 zz77 hw.1 ?_
                    have hw := hw.2
                    refine g_iinc (v := (x3_12 + (1 : Int32))) (lv' := [(3, .int (x3_12 + (1 : Int32))), (0, .ref (ad h0)), (1, .int x1), (2, .int (I (rq Q h0 0) (0 : Int32).toNatClampNeg)), (4, .int x4_8), (5, .int r62), (6, .int x6_12)]) C dX11_laysViews_155 (q := 3) rfl rfl (by decide) rfl ?_
                    refine g_iinc (v := (x6_12 + (1 : Int32))) (lv' := [(6, .int (x6_12 + (1 : Int32))), (3, .int (x3_12 + (1 : Int32))), (0, .ref (ad h0)), (1, .int x1), (2, .int (I (rq Q h0 0) (0 : Int32).toNatClampNeg)), (4, .int x4_8), (5, .int r62)]) C dX11_laysViews_158 (q := 6) rfl rfl (by decide) rfl ?_
                    refine g_goto C dX11_laysViews_161 (tgt := 66) (by decide) ?_
                    refine g_sub [2, 3, 4, 1, 5, 6, 0] rfl ?_
                    exact ih_u64 (sti I_74 (rq Q h0 16) x6_12.toNatClampNeg x3_12) (x3_12 + (1 : Int32)) (x6_12 + (1 : Int32)) hw hWF
                have L83_u73 : ∀ (n83 : Nat) (I_15 : KI) (x7_15 : Int32), wp_X11_laysViews_L83 Q h0 r62 x6_12 (fun I_74 => (vp_in x6_12 6 ∧ ((0 ≤ (I_74 (rq Q h0 16) x6_12.toNatClampNeg) → wp_X11_laysViews_L66 Q h0 (I (rq Q h0 0) (0 : Int32).toNatClampNeg) r62 (fun I_65 x3_65 => wp_X11_copies I_65 (rq Q h0 16) 6 (0 : Int32) (rq Q h0 15) 6 (0 : Int32) (I (rq Q h0 0) (0 : Int32).toNatClampNeg) (fun I68 => wp_X11_laysViews_L40 Q h0 x1 (I (rq Q h0 0) (0 : Int32).toNatClampNeg) post n40 I68 x3_65 (x4_8 + (1 : Int32)))) n66 I_74 x3_12 (x6_12 + (1 : Int32))) ∧ (¬ 0 ≤ (I_74 (rq Q h0 16) x6_12.toNatClampNeg) → (vp_in x6_12 6 ∧ wp_X11_laysViews_L66 Q h0 (I (rq Q h0 0) (0 : Int32).toNatClampNeg) r62 (fun I_65 x3_65 => wp_X11_copies I_65 (rq Q h0 16) 6 (0 : Int32) (rq Q h0 15) 6 (0 : Int32) (I (rq Q h0 0) (0 : Int32).toNatClampNeg) (fun I68 => wp_X11_laysViews_L40 Q h0 x1 (I (rq Q h0 0) (0 : Int32).toNatClampNeg) post n40 I68 x3_65 (x4_8 + (1 : Int32)))) n66 (sti I_74 (rq Q h0 16) x6_12.toNatClampNeg x3_12) (x3_12 + (1 : Int32)) (x6_12 + (1 : Int32))))))) n83 I_15 x7_15 → WF Z N T Q → GG p l e ({ frames := 2, cells := 0, slots := 0, locals := 50 }) s m [.ref (ad h0), .int x1].toArray below meth c 8 A D D2 0 0 (MQ below (va_Qi (fun (r : Int32) (u : KS) => post r u.1 ∧ u.2.1 = J ∧ u.2.2 = Q ∧ WF Z N T u.2.2) (Bw D D2 ad N T) A) [.ref (ad h0), .int x1].toArray s 0 0 A) ad N T I_15 J Q 83 [(0, .ref (ad h0)), (1, .int x1), (2, .int (I (rq Q h0 0) (0 : Int32).toNatClampNeg)), (3, .int x3_12), (4, .int x4_8), (5, .int r62), (6, .int x6_12), (7, .int x7_15)] [] := by
                  intro n83
                  induction n83 with
                  | zero => intro I_15 x7_15 hw; exact hw.elim
                  | succ n83 ih_u73 =>
                    intro I_15 x7_15 hw hWF
                    unfold wp_X11_laysViews_L83 at hw
                    refine g_iload C dX11_laysViews_83 7 rfl ?_
                    refine g_iload C dX11_laysViews_85 6 rfl ?_
                    refine g_icmp_ge (tgt := 137) C dX11_laysViews_87 (by decide) (fun c79 => ?_) (fun c79 => ?_)
                    · have hw := hw.1 c79
                      refine g_sub [0, 1, 2, 3, 4, 5, 6] rfl ?_
                      exact K137_u73 I_15 hw hWF
                    · have hw := hw.2 c79
                      refine g_aload_n C dX11_laysViews_90 rfl 0 rfl ?_
                      refine g_getQ C dX11_laysViews_91 ft_453 z0 (hWF.q z0 16 rfl) ?_
                      have zz80 := hWF.r z0 16 rfl
                      refine g_iload C dX11_laysViews_94 6 rfl ?_
                      refine g_iald C dX11_laysViews_96 zz80 hw.1 ?_
                      have hw := hw.2
                      refine g_if_ge (tgt := 137) C dX11_laysViews_97 (by decide) (fun c81 => ?_) (fun c81 => ?_)
                      · have hw := hw.1 c81
                        refine g_sub [0, 1, 2, 3, 4, 5, 6] rfl ?_
                        exact K137_u73 I_15 hw hWF
                      · have hw := hw.2 c81
                        refine g_aload_n C dX11_laysViews_100 rfl 0 rfl ?_
                        refine g_getQ C dX11_laysViews_101 ft_453 z0 (hWF.q z0 16 rfl) ?_
                        have zz82 := hWF.r z0 16 rfl
                        refine g_iload C dX11_laysViews_104 6 rfl ?_
                        refine g_aload_n C dX11_laysViews_106 rfl 0 rfl ?_
                        refine g_iload C dX11_laysViews_107 7 rfl ?_
                        refine g_iload C dX11_laysViews_109 6 rfl ?_
                        refine g_iload C dX11_laysViews_111 5 rfl ?_
                        refine g_callVi (As := [.int x7_15, .int x6_12, .int r62]) C dX11_laysViews_113 ft_387 z0 ft_454 ft_455 (met_X11_areAlike l hWF z0 hw) ⟨rfl, rfl, Nat.le_of_ble_eq_true rfl, Nat.le_of_ble_eq_true rfl⟩ ⟨Nat.zero_le _, Nat.zero_le _⟩ rfl rfl (Nat.le_of_ble_eq_true rfl) (fun r83 I83 J83 Q83 hp => ?_)
                        obtain ⟨hw, eI, eJ, eQ, hWF⟩ := hp
                        have eI : I_15 = I83 := Eq.symm eI
                        subst eI
                        have eJ : J = J83 := Eq.symm eJ
                        subst eJ
                        have eQ : Q = Q83 := Eq.symm eQ
                        subst eQ
                        try dsimp only at hw hWF
                        refine g_if_eq (tgt := 129) C dX11_laysViews_116 (by decide) (fun c84 => ?_) (fun c84 => ?_)
                        · have hw := hw.1 c84
                          refine g_iconst (v := (-1 : Int32)) C dX11_laysViews_129 (by decide) ?_
                          refine g_iast C dX11_laysViews_130 zz82 hw.1 ?_
                          have hw := hw.2
                          refine g_iinc (v := (x7_15 + (1 : Int32))) (lv' := [(7, .int (x7_15 + (1 : Int32))), (0, .ref (ad h0)), (1, .int x1), (2, .int (I (rq Q h0 0) (0 : Int32).toNatClampNeg)), (3, .int x3_12), (4, .int x4_8), (5, .int r62), (6, .int x6_12)]) C dX11_laysViews_131 (q := 7) rfl rfl (by decide) rfl ?_
                          refine g_goto C dX11_laysViews_134 (tgt := 83) (by decide) ?_
                          refine g_sub [1, 2, 3, 4, 5, 6, 7, 0] rfl ?_
                          exact ih_u73 (sti I_15 (rq Q h0 16) x6_12.toNatClampNeg (-1 : Int32)) (x7_15 + (1 : Int32)) hw hWF
                        · have hw := hw.2 c84
                          refine g_aload_n C dX11_laysViews_119 rfl 0 rfl ?_
                          refine g_getQ C dX11_laysViews_120 ft_453 z0 (hWF.q z0 16 rfl) ?_
                          have zz85 := hWF.r z0 16 rfl
                          refine g_iload C dX11_laysViews_123 7 rfl ?_
                          refine g_iald C dX11_laysViews_125 zz85 hw.1 ?_
                          have hw := hw.2
                          refine g_goto C dX11_laysViews_126 (tgt := 130) (by decide) ?_
                          refine g_iast C dX11_laysViews_130 zz82 hw.1 ?_
                          have hw := hw.2
                          refine g_iinc (v := (x7_15 + (1 : Int32))) (lv' := [(7, .int (x7_15 + (1 : Int32))), (0, .ref (ad h0)), (1, .int x1), (2, .int (I (rq Q h0 0) (0 : Int32).toNatClampNeg)), (3, .int x3_12), (4, .int x4_8), (5, .int r62), (6, .int x6_12)]) C dX11_laysViews_131 (q := 7) rfl rfl (by decide) rfl ?_
                          refine g_goto C dX11_laysViews_134 (tgt := 83) (by decide) ?_
                          refine g_sub [1, 2, 3, 4, 5, 6, 7, 0] rfl ?_
                          exact ih_u73 (sti I_15 (rq Q h0 16) x6_12.toNatClampNeg (I_15 (rq Q h0 16) x7_15.toNatClampNeg)) (x7_15 + (1 : Int32)) hw hWF
                obtain ⟨n_u73, hw⟩ := hw
                refine g_sub [1, 2, 3, 4, 5, 6, 7, 0] rfl ?_
                exact L83_u73 n_u73 (sti I_12 (rq Q h0 16) x6_12.toNatClampNeg (-1 : Int32)) (0 : Int32) hw hWF
          obtain ⟨n_u64, hw⟩ := hw
          refine g_sub [3, 4, 5, 1, 6, 2, 0] rfl ?_
          exact L66_u64 n_u64 I_8 (0 : Int32) (0 : Int32) hw hWF
    obtain ⟨n_u58, hw⟩ := hw
    refine g_sub [2, 3, 4, 1, 0] rfl ?_
    exact L40_u58 n_u58 I_7 (2 : Int32) (0 : Int32) hw hWF
  have L9_u6 : ∀ (n9 : Nat) (I_2 : KI) (x3_2 : Int32), wp_X11_laysViews_L9 Q h0 (I (rq Q h0 0) (0 : Int32).toNatClampNeg) (fun I_7 => (∃ q40, wp_X11_laysViews_L40 Q h0 x1 (I (rq Q h0 0) (0 : Int32).toNatClampNeg) post q40 I_7 (2 : Int32) (0 : Int32))) n9 I_2 x3_2 → WF Z N T Q → GG p l e ({ frames := 2, cells := 0, slots := 0, locals := 50 }) s m [.ref (ad h0), .int x1].toArray below meth c 8 A D D2 0 0 (MQ below (va_Qi (fun (r : Int32) (u : KS) => post r u.1 ∧ u.2.1 = J ∧ u.2.2 = Q ∧ WF Z N T u.2.2) (Bw D D2 ad N T) A) [.ref (ad h0), .int x1].toArray s 0 0 A) ad N T I_2 J Q 9 [(0, .ref (ad h0)), (1, .int x1), (2, .int (I (rq Q h0 0) (0 : Int32).toNatClampNeg)), (3, .int x3_2)] [] := by
    intro n9
    induction n9 with
    | zero => intro I_2 x3_2 hw; exact hw.elim
    | succ n9 ih_u6 =>
      intro I_2 x3_2 hw hWF
      unfold wp_X11_laysViews_L9 at hw
      refine g_iload_n C dX11_laysViews_9 rfl 3 rfl ?_
      refine g_iload_n C dX11_laysViews_10 rfl 2 rfl ?_
      refine g_icmp_ge (tgt := 35) C dX11_laysViews_11 (by decide) (fun c87 => ?_) (fun c87 => ?_)
      · have hw := hw.1 c87
        refine g_sub [0, 1, 2] rfl ?_
        exact K35_u6 I_2 hw hWF
      · have hw := hw.2 c87
        refine g_aload_n C dX11_laysViews_14 rfl 0 rfl ?_
        refine g_getQ C dX11_laysViews_15 ft_452 z0 (hWF.q z0 15 rfl) ?_
        have zz88 := hWF.r z0 15 rfl
        refine g_iload_n C dX11_laysViews_18 rfl 3 rfl ?_
        refine g_iload_n C dX11_laysViews_19 rfl 3 rfl ?_
        refine g_if_ne (tgt := 27) C dX11_laysViews_20 (by decide) (fun c89 => ?_) (fun c89 => ?_)
        · have hw := hw.1 c89
          refine g_iconst (v := (1 : Int32)) C dX11_laysViews_27 (by decide) ?_
          refine g_iast C dX11_laysViews_28 zz88 hw.1 ?_
          have hw := hw.2
          refine g_iinc (v := (x3_2 + (1 : Int32))) (lv' := [(3, .int (x3_2 + (1 : Int32))), (0, .ref (ad h0)), (1, .int x1), (2, .int (I (rq Q h0 0) (0 : Int32).toNatClampNeg))]) C dX11_laysViews_29 (q := 3) rfl rfl (by decide) rfl ?_
          refine g_goto C dX11_laysViews_32 (tgt := 9) (by decide) ?_
          refine g_sub [1, 2, 3, 0] rfl ?_
          exact ih_u6 (sti I_2 (rq Q h0 15) x3_2.toNatClampNeg (1 : Int32)) (x3_2 + (1 : Int32)) hw hWF
        · have hw := hw.2 c89
          refine g_iconst (v := (0 : Int32)) C dX11_laysViews_23 (by decide) ?_
          refine g_goto C dX11_laysViews_24 (tgt := 28) (by decide) ?_
          refine g_iast C dX11_laysViews_28 zz88 hw.1 ?_
          have hw := hw.2
          refine g_iinc (v := (x3_2 + (1 : Int32))) (lv' := [(3, .int (x3_2 + (1 : Int32))), (0, .ref (ad h0)), (1, .int x1), (2, .int (I (rq Q h0 0) (0 : Int32).toNatClampNeg))]) C dX11_laysViews_29 (q := 3) rfl rfl (by decide) rfl ?_
          refine g_goto C dX11_laysViews_32 (tgt := 9) (by decide) ?_
          refine g_sub [1, 2, 3, 0] rfl ?_
          exact ih_u6 (sti I_2 (rq Q h0 15) x3_2.toNatClampNeg (0 : Int32)) (x3_2 + (1 : Int32)) hw hWF
  obtain ⟨n_u6, hw⟩ := hw
  refine g_sub [2, 3, 1, 0] rfl ?_
  exact L9_u6 n_u6 I (0 : Int32) hw hWF
def wp_X11_views (I : KI) (Q : KQ) (h0 : Nat) (x1 : Int32) (post : Int32 → KI → Prop) : Prop := wp_X11_in (x1.toInt64) (0 : Int64) (9 : Int64) (fun r1 => ((r1 = 0 → post (-1 : Int32) I) ∧ (¬ r1 = 0 → wp_X11_laysViews I Q h0 x1 (fun r3 I3 => post r3 I3))))
set_option maxHeartbeats 4000000 in
set_option maxRecDepth 100000 in
theorem met_X11_views {Z : Nat → Prop} {A : Nat → Prop} {D : va_G} {D2 : Nat → ClassId} {ad : Nat → Nat} {N : Nat} {T : Nat → Nat × Nat} (l : Launch) {I : KI} {J : KJ} {Q : KQ} {h0 : Nat} {x1 : Int32} {post : Int32 → KI → Prop} (hWF : WF Z N T Q) (z0 : OKr Z N T h0 (11, 0)) (hw : wp_X11_views I Q h0 x1 post) : Met l yX11_views (.code yX11_views cX11_views 2 (some .int) :: BIG) ({ frames := 3, cells := 0, slots := 0, locals := 77 }) (Pr D D2 A ad N T I J Q [.ref (ad h0), .int x1]) (va_Qi (fun (r : Int32) (u : KS) => post r u.1 ∧ u.2.1 = J ∧ u.2.2 = Q ∧ WF Z N T u.2.2) (Bw D D2 ad N T) A) 0 0 A := by
  refine Met_GG (lv0 := [(0, .ref (ad h0)), (1, .int x1)]) (by decide +kernel) [.ref (ad h0), .int x1] (Nat.le_of_ble_eq_true rfl) rfl ?_
  intro p e s m below meth c C hr
  have C : CX p s m [.ref (ad h0), .int x1].toArray meth c cX11_views 2 RX11 A D D2 := C
  unfold wp_X11_views at hw
  refine g_iload_n C dX11_views_0 rfl 1 rfl ?_
  refine g_i2l C dX11_views_1 ?_
  refine g_lconst (v := (0 : Int64)) C dX11_views_2 (by decide) ?_
  refine g_ldc2 C dX11_views_3 ft_456 ?_
  refine g_callSi (As := [.long (x1.toInt64), .long (0 : Int64), .long (9 : Int64)]) C dX11_views_6 ft_397 ft_398 (met_X11_in l hWF  hw) ⟨rfl, rfl, Nat.le_of_ble_eq_true rfl, Nat.le_of_ble_eq_true rfl⟩ ⟨Nat.zero_le _, Nat.zero_le _⟩ rfl rfl (Nat.le_of_ble_eq_true rfl) (fun r1 I1 J1 Q1 hp => ?_)
  obtain ⟨hw, eI, eJ, eQ, hWF⟩ := hp
  have eI : I = I1 := Eq.symm eI
  subst eI
  have eJ : J = J1 := Eq.symm eJ
  subst eJ
  have eQ : Q = Q1 := Eq.symm eQ
  subst eQ
  try dsimp only at hw hWF
  refine g_if_eq (tgt := 20) C dX11_views_9 (by decide) (fun c2 => ?_) (fun c2 => ?_)
  · have hw := hw.1 c2
    refine g_iconst (v := (-1 : Int32)) C dX11_views_20 (by decide) ?_
    exact g_iret C dX11_views_21 hr ⟨hw, rfl, rfl, hWF⟩
  · have hw := hw.2 c2
    refine g_aload_n C dX11_views_12 rfl 0 rfl ?_
    refine g_iload_n C dX11_views_13 rfl 1 rfl ?_
    refine g_callVi (As := [.int x1]) C dX11_views_14 ft_387 z0 ft_457 ft_458 (met_X11_laysViews l hWF z0 hw) ⟨rfl, rfl, Nat.le_of_ble_eq_true rfl, Nat.le_of_ble_eq_true rfl⟩ ⟨Nat.zero_le _, Nat.zero_le _⟩ rfl rfl (Nat.le_of_ble_eq_true rfl) (fun r3 I3 J3 Q3 hp => ?_)
    obtain ⟨hw, eJ, eQ, hWF⟩ := hp
    have eJ : J = J3 := Eq.symm eJ
    subst eJ
    have eQ : Q = Q3 := Eq.symm eQ
    subst eQ
    try dsimp only at hw hWF
    refine g_goto C dX11_views_17 (tgt := 21) (by decide) ?_
    exact g_iret C dX11_views_21 hr ⟨hw, rfl, rfl, hWF⟩
def wp_X11_view (I : KI) (Q : KQ) (h0 : Nat) (x1 : Int32) (x2 : Int32) (post : Int32 → KI → Prop) : Prop := wp_X11_in (x1.toInt64) (0 : Int64) (9 : Int64) (fun r1 => ((r1 = 0 → post (-1 : Int32) I) ∧ (¬ r1 = 0 → wp_X11_isNode I Q h0 x2 (fun r3 => ((¬ r3 = 0 → wp_X11_laysViews I Q h0 x1 (fun r5 I5 => (vp_in x2 6 ∧ post (I5 (rq Q h0 15) x2.toNatClampNeg) I5))) ∧ (r3 = 0 → post (-1 : Int32) I))))))
set_option maxHeartbeats 4000000 in
set_option maxRecDepth 100000 in
theorem met_X11_view {Z : Nat → Prop} {A : Nat → Prop} {D : va_G} {D2 : Nat → ClassId} {ad : Nat → Nat} {N : Nat} {T : Nat → Nat × Nat} (l : Launch) {I : KI} {J : KJ} {Q : KQ} {h0 : Nat} {x1 : Int32} {x2 : Int32} {post : Int32 → KI → Prop} (hWF : WF Z N T Q) (z0 : OKr Z N T h0 (11, 0)) (hw : wp_X11_view I Q h0 x1 x2 post) : Met l yX11_view (.code yX11_view cX11_view 3 (some .int) :: BIG) ({ frames := 3, cells := 0, slots := 0, locals := 77 }) (Pr D D2 A ad N T I J Q [.ref (ad h0), .int x1, .int x2]) (va_Qi (fun (r : Int32) (u : KS) => post r u.1 ∧ u.2.1 = J ∧ u.2.2 = Q ∧ WF Z N T u.2.2) (Bw D D2 ad N T) A) 0 0 A := by
  refine Met_GG (lv0 := [(0, .ref (ad h0)), (1, .int x1), (2, .int x2)]) (by decide +kernel) [.ref (ad h0), .int x1, .int x2] (Nat.le_of_ble_eq_true rfl) rfl ?_
  intro p e s m below meth c C hr
  have C : CX p s m [.ref (ad h0), .int x1, .int x2].toArray meth c cX11_view 3 RX11 A D D2 := C
  unfold wp_X11_view at hw
  refine g_iload_n C dX11_view_0 rfl 1 rfl ?_
  refine g_i2l C dX11_view_1 ?_
  refine g_lconst (v := (0 : Int64)) C dX11_view_2 (by decide) ?_
  refine g_ldc2 C dX11_view_3 ft_456 ?_
  refine g_callSi (As := [.long (x1.toInt64), .long (0 : Int64), .long (9 : Int64)]) C dX11_view_6 ft_397 ft_398 (met_X11_in l hWF  hw) ⟨rfl, rfl, Nat.le_of_ble_eq_true rfl, Nat.le_of_ble_eq_true rfl⟩ ⟨Nat.zero_le _, Nat.zero_le _⟩ rfl rfl (Nat.le_of_ble_eq_true rfl) (fun r1 I1 J1 Q1 hp => ?_)
  obtain ⟨hw, eI, eJ, eQ, hWF⟩ := hp
  have eI : I = I1 := Eq.symm eI
  subst eI
  have eJ : J = J1 := Eq.symm eJ
  subst eJ
  have eQ : Q = Q1 := Eq.symm eQ
  subst eQ
  try dsimp only at hw hWF
  refine g_if_eq (tgt := 20) C dX11_view_9 (by decide) (fun c2 => ?_) (fun c2 => ?_)
  · have hw := hw.1 c2
    refine g_iconst (v := (-1 : Int32)) C dX11_view_20 (by decide) ?_
    exact g_iret C dX11_view_21 hr ⟨hw, rfl, rfl, hWF⟩
  · have hw := hw.2 c2
    refine g_aload_n C dX11_view_12 rfl 0 rfl ?_
    refine g_iload_n C dX11_view_13 rfl 2 rfl ?_
    refine g_callVi (As := [.int x2]) C dX11_view_14 ft_387 z0 ft_434 ft_435 (met_X11_isNode l hWF z0 hw) ⟨rfl, rfl, Nat.le_of_ble_eq_true rfl, Nat.le_of_ble_eq_true rfl⟩ ⟨Nat.zero_le _, Nat.zero_le _⟩ rfl rfl (Nat.le_of_ble_eq_true rfl) (fun r3 I3 J3 Q3 hp => ?_)
    obtain ⟨hw, eI, eJ, eQ, hWF⟩ := hp
    have eI : I = I3 := Eq.symm eI
    subst eI
    have eJ : J = J3 := Eq.symm eJ
    subst eJ
    have eQ : Q = Q3 := Eq.symm eQ
    subst eQ
    try dsimp only at hw hWF
    refine g_if_ne (tgt := 22) C dX11_view_17 (by decide) (fun c4 => ?_) (fun c4 => ?_)
    · have hw := hw.1 c4
      refine g_aload_n C dX11_view_22 rfl 0 rfl ?_
      refine g_iload_n C dX11_view_23 rfl 1 rfl ?_
      refine g_callVi (As := [.int x1]) C dX11_view_24 ft_387 z0 ft_457 ft_458 (met_X11_laysViews l hWF z0 hw) ⟨rfl, rfl, Nat.le_of_ble_eq_true rfl, Nat.le_of_ble_eq_true rfl⟩ ⟨Nat.zero_le _, Nat.zero_le _⟩ rfl rfl (Nat.le_of_ble_eq_true rfl) (fun r5 I5 J5 Q5 hp => ?_)
      obtain ⟨hw, eJ, eQ, hWF⟩ := hp
      have eJ : J = J5 := Eq.symm eJ
      subst eJ
      have eQ : Q = Q5 := Eq.symm eQ
      subst eQ
      try dsimp only at hw hWF
      refine g_pop C dX11_view_27 rfl ?_
      refine g_aload_n C dX11_view_28 rfl 0 rfl ?_
      refine g_getQ C dX11_view_29 ft_452 z0 (hWF.q z0 15 rfl) ?_
      have zz6 := hWF.r z0 15 rfl
      refine g_iload_n C dX11_view_32 rfl 2 rfl ?_
      refine g_iald C dX11_view_33 zz6 hw.1 ?_
      have hw := hw.2
      exact g_iret C dX11_view_34 hr ⟨hw, rfl, rfl, hWF⟩
    · have hw := hw.2 c4
      refine g_iconst (v := (-1 : Int32)) C dX11_view_20 (by decide) ?_
      exact g_iret C dX11_view_21 hr ⟨hw, rfl, rfl, hWF⟩
def wp_X11_laysOdds_L34 (f0_3 : Nat) (f2_3 : Int32) (f4_3 : Int32) (k72 : KJ → Prop) : Nat → KJ → Int32 → Prop
  | 0, _, _ => False
  | n34 + 1, J_3, x5_3 => ((f4_3 ≤ x5_3 → k72 J_3) ∧ (¬ f4_3 ≤ x5_3 → wp_X11_has f2_3 x5_3 (fun r5 => ((r5 = 0 → wp_X11_laysOdds_L34 f0_3 f2_3 f4_3 k72 n34 (stj J_3 f0_3 18 ((J_3 f0_3 18) * (1 : Int64))) (x5_3 + (1 : Int32))) ∧ (¬ r5 = 0 → wp_X11_laysOdds_L34 f0_3 f2_3 f4_3 k72 n34 (stj J_3 f0_3 18 ((J_3 f0_3 18) * (10 : Int64))) (x5_3 + (1 : Int32)))))))
def wp_X11_laysOdds_L108 (f1_14 : Int32) (f2_14 : Int32) (f4_14 : Int32) (f5_14 : Int32) (k160 : Int64 → Prop) : Nat → Int64 → Int32 → Prop
  | 0, _, _ => False
  | n108 + 1, x6_14, x8_14 => ((f4_14 ≤ x8_14 → k160 x6_14) ∧ (¬ f4_14 ≤ x8_14 → wp_X11_has f2_14 x8_14 (fun r16 => ((¬ r16 = 0 → wp_X11_has f5_14 x8_14 (fun r18 => ((r18 = 0 → wp_X11_laysOdds_L108 f1_14 f2_14 f4_14 f5_14 k160 n108 (x6_14 * (f1_14.toInt64)) (x8_14 + (1 : Int32))) ∧ (¬ r18 = 0 → wp_X11_laysOdds_L108 f1_14 f2_14 f4_14 f5_14 k160 n108 (x6_14 * ((10 : Int64) - (f1_14.toInt64))) (x8_14 + (1 : Int32)))))) ∧ (r16 = 0 → wp_X11_laysOdds_L108 f1_14 f2_14 f4_14 f5_14 k160 n108 (x6_14 * (1 : Int64)) (x8_14 + (1 : Int32)))))))
def wp_X11_laysOdds_L75 (If_9 : KI) (Qf_9 : KQ) (f0_9 : Nat) (f1_9 : Int32) (f2_9 : Int32) (f4_9 : Int32) (k177 : KJ → Prop) : Nat → KJ → Int32 → Prop
  | 0, _, _ => False
  | n75 + 1, J_9, x5_9 => ((((1 : Int32) <<< (f4_9 &&& 31)) ≤ x5_9 → k177 J_9) ∧ (¬ ((1 : Int32) <<< (f4_9 &&& 31)) ≤ x5_9 → ((¬ (x5_9 &&& (f2_9 ^^^ (-1 : Int32))) = 0 → wp_X11_laysOdds_L75 If_9 Qf_9 f0_9 f1_9 f2_9 f4_9 k177 n75 J_9 (x5_9 + (1 : Int32))) ∧ ((x5_9 &&& (f2_9 ^^^ (-1 : Int32))) = 0 → wp_X11_areJoined If_9 Qf_9 f0_9 x5_9 (fun r12 => ((r12 = 0 → wp_X11_laysOdds_L75 If_9 Qf_9 f0_9 f1_9 f2_9 f4_9 k177 n75 J_9 (x5_9 + (1 : Int32))) ∧ (¬ r12 = 0 → (∃ q108, wp_X11_laysOdds_L108 f1_9 f2_9 f4_9 x5_9 (fun x6_21 => wp_X11_laysOdds_L75 If_9 Qf_9 f0_9 f1_9 f2_9 f4_9 k177 n75 (stj J_9 f0_9 17 ((J_9 f0_9 17) + x6_21)) (x5_9 + (1 : Int32))) q108 (1 : Int64) (0 : Int32)))))))))
def wp_X11_laysOdds_L189 (Jf_30 : KJ) (f0_30 : Nat) (post : KJ → Prop) : Nat → Int64 → Int64 → Prop
  | 0, _, _ => False
  | n189 + 1, x5_30, x7_30 => (((lg_cmp x7_30 (0 : Int64)) = 0 → (¬ x5_30 = 0 ∧ (¬ x5_30 = 0 ∧ post (stj (stj Jf_30 f0_30 17 ((Jf_30 f0_30 17) / x5_30)) f0_30 18 (((stj Jf_30 f0_30 17 ((Jf_30 f0_30 17) / x5_30)) f0_30 18) / x5_30))))) ∧ (¬ (lg_cmp x7_30 (0 : Int64)) = 0 → (¬ x7_30 = 0 ∧ wp_X11_laysOdds_L189 Jf_30 f0_30 post n189 x7_30 (x5_30 - x5_30 / x7_30 * x7_30))))
def wp_X11_laysOdds (I : KI) (J : KJ) (Q : KQ) (h0 : Nat) (x1 : Int32) (post : KJ → Prop) : Prop := wp_X11_present I Q h0 (fun r1 => (∃ q34, wp_X11_laysOdds_L34 h0 r1 (((I (rq Q h0 0) (0 : Int32).toNatClampNeg) * ((I (rq Q h0 0) (0 : Int32).toNatClampNeg) - (1 : Int32))) / (2 : Int32)) (fun J_8 => (∃ q75, wp_X11_laysOdds_L75 I Q h0 x1 r1 (((I (rq Q h0 0) (0 : Int32).toNatClampNeg) * ((I (rq Q h0 0) (0 : Int32).toNatClampNeg) - (1 : Int32))) / (2 : Int32)) (fun J_29 => (∃ q189, wp_X11_laysOdds_L189 J_29 h0 post q189 (J_29 h0 17) (J_29 h0 18))) q75 J_8 (0 : Int32))) q34 (stj (stj J h0 17 (0 : Int64)) h0 18 (1 : Int64)) (0 : Int32)))
set_option maxHeartbeats 4000000 in
set_option maxRecDepth 100000 in
theorem met_X11_laysOdds {Z : Nat → Prop} {A : Nat → Prop} {D : va_G} {D2 : Nat → ClassId} {ad : Nat → Nat} {N : Nat} {T : Nat → Nat × Nat} (l : Launch) {I : KI} {J : KJ} {Q : KQ} {h0 : Nat} {x1 : Int32} {post : KJ → Prop} (hWF : WF Z N T Q) (z0 : OKr Z N T h0 (11, 0)) (hw : wp_X11_laysOdds I J Q h0 x1 post) : Met l yX11_laysOdds (.code yX11_laysOdds cX11_laysOdds 11 none :: BIG) ({ frames := 3, cells := 0, slots := 0, locals := 72 }) (Pr D D2 A ad N T I J Q [.ref (ad h0), .int x1]) (va_Qv (fun (u : KS) => post u.2.1 ∧ u.1 = I ∧ u.2.2 = Q ∧ WF Z N T u.2.2) (Bw D D2 ad N T) A) 0 0 A := by
  refine Met_GG (lv0 := [(0, .ref (ad h0)), (1, .int x1)]) (by decide +kernel) [.ref (ad h0), .int x1] (Nat.le_of_ble_eq_true rfl) rfl ?_
  intro p e s m below meth c C hr
  have C : CX p s m [.ref (ad h0), .int x1].toArray meth c cX11_laysOdds 11 RX11 A D D2 := C
  unfold wp_X11_laysOdds at hw
  refine g_aload_n C dX11_laysOdds_0 rfl 0 rfl ?_
  refine g_callVi (As := []) C dX11_laysOdds_1 ft_387 z0 ft_426 ft_427 (met_X11_present l hWF z0 hw) ⟨rfl, rfl, Nat.le_of_ble_eq_true rfl, Nat.le_of_ble_eq_true rfl⟩ ⟨Nat.zero_le _, Nat.zero_le _⟩ rfl rfl (Nat.le_of_ble_eq_true rfl) (fun r1 I1 J1 Q1 hp => ?_)
  obtain ⟨hw, eI, eJ, eQ, hWF⟩ := hp
  have eI : I = I1 := Eq.symm eI
  subst eI
  have eJ : J = J1 := Eq.symm eJ
  subst eJ
  have eQ : Q = Q1 := Eq.symm eQ
  subst eQ
  try dsimp only at hw hWF
  refine g_istore_n (lv' := [(2, .int r1), (0, .ref (ad h0)), (1, .int x1)]) C dX11_laysOdds_4 rfl (by decide) rfl ?_
  refine g_aload_n C dX11_laysOdds_5 rfl 1 rfl ?_
  refine g_getQ C dX11_laysOdds_6 ft_363 z0 (hWF.q z0 0 rfl) ?_
  have zz2 := hWF.r z0 0 rfl
  refine g_iconst (v := (0 : Int32)) C dX11_laysOdds_9 (by decide) ?_
  refine g_iald C dX11_laysOdds_10 zz2 (vp_lit (by decide +kernel)) ?_
  refine g_istore_n (lv' := [(3, .int (I (rq Q h0 0) (0 : Int32).toNatClampNeg)), (2, .int r1), (0, .ref (ad h0)), (1, .int x1)]) C dX11_laysOdds_11 rfl (by decide) rfl ?_
  refine g_iload_n C dX11_laysOdds_12 rfl 0 rfl ?_
  refine g_iload_n C dX11_laysOdds_13 rfl 0 rfl ?_
  refine g_iconst (v := (1 : Int32)) C dX11_laysOdds_14 (by decide) ?_
  refine g_isub C dX11_laysOdds_15 ?_
  refine g_imul C dX11_laysOdds_16 ?_
  refine g_iconst (v := (2 : Int32)) C dX11_laysOdds_17 (by decide) ?_
  refine g_idiv C dX11_laysOdds_18 (by decide) ?_
  refine g_istore (lv' := [(4, .int (((I (rq Q h0 0) (0 : Int32).toNatClampNeg) * ((I (rq Q h0 0) (0 : Int32).toNatClampNeg) - (1 : Int32))) / (2 : Int32))), (3, .int (I (rq Q h0 0) (0 : Int32).toNatClampNeg)), (2, .int r1), (0, .ref (ad h0)), (1, .int x1)]) C dX11_laysOdds_19 (by decide) rfl ?_
  refine g_aload_n C dX11_laysOdds_21 rfl 3 rfl ?_
  refine g_lconst (v := (0 : Int64)) C dX11_laysOdds_22 (by decide) ?_
  refine g_putJ C dX11_laysOdds_23 ft_459 z0 ?_
  refine g_aload_n C dX11_laysOdds_26 rfl 3 rfl ?_
  refine g_lconst (v := (1 : Int64)) C dX11_laysOdds_27 (by decide) ?_
  refine g_putJ C dX11_laysOdds_28 ft_460 z0 ?_
  refine g_iconst (v := (0 : Int32)) C dX11_laysOdds_31 (by decide) ?_
  refine g_istore (lv' := [(5, .int (0 : Int32)), (4, .int (((I (rq Q h0 0) (0 : Int32).toNatClampNeg) * ((I (rq Q h0 0) (0 : Int32).toNatClampNeg) - (1 : Int32))) / (2 : Int32))), (3, .int (I (rq Q h0 0) (0 : Int32).toNatClampNeg)), (2, .int r1), (0, .ref (ad h0)), (1, .int x1)]) C dX11_laysOdds_32 (by decide) rfl ?_
  have K72_u7 : ∀ (J_8 : KJ), ((∃ q75, wp_X11_laysOdds_L75 I Q h0 x1 r1 (((I (rq Q h0 0) (0 : Int32).toNatClampNeg) * ((I (rq Q h0 0) (0 : Int32).toNatClampNeg) - (1 : Int32))) / (2 : Int32)) (fun J_29 => (∃ q189, wp_X11_laysOdds_L189 J_29 h0 post q189 (J_29 h0 17) (J_29 h0 18))) q75 J_8 (0 : Int32))) → WF Z N T Q → GG p l e ({ frames := 3, cells := 0, slots := 0, locals := 72 }) s m [.ref (ad h0), .int x1].toArray below meth c 11 A D D2 0 0 (MQ below (va_Qv (fun (u : KS) => post u.2.1 ∧ u.1 = I ∧ u.2.2 = Q ∧ WF Z N T u.2.2) (Bw D D2 ad N T) A) [.ref (ad h0), .int x1].toArray s 0 0 A) ad N T I J_8 Q 72 [(0, .ref (ad h0)), (1, .int x1), (2, .int r1), (4, .int (((I (rq Q h0 0) (0 : Int32).toNatClampNeg) * ((I (rq Q h0 0) (0 : Int32).toNatClampNeg) - (1 : Int32))) / (2 : Int32)))] [] := by
    intro J_8 hw hWF
    refine g_iconst (v := (0 : Int32)) C dX11_laysOdds_72 (by decide) ?_
    refine g_istore (lv' := [(5, .int (0 : Int32)), (0, .ref (ad h0)), (1, .int x1), (2, .int r1), (4, .int (((I (rq Q h0 0) (0 : Int32).toNatClampNeg) * ((I (rq Q h0 0) (0 : Int32).toNatClampNeg) - (1 : Int32))) / (2 : Int32)))]) C dX11_laysOdds_73 (by decide) rfl ?_
    have K177_u28 : ∀ (J_29 : KJ), ((∃ q189, wp_X11_laysOdds_L189 J_29 h0 post q189 (J_29 h0 17) (J_29 h0 18))) → WF Z N T Q → GG p l e ({ frames := 3, cells := 0, slots := 0, locals := 72 }) s m [.ref (ad h0), .int x1].toArray below meth c 11 A D D2 0 0 (MQ below (va_Qv (fun (u : KS) => post u.2.1 ∧ u.1 = I ∧ u.2.2 = Q ∧ WF Z N T u.2.2) (Bw D D2 ad N T) A) [.ref (ad h0), .int x1].toArray s 0 0 A) ad N T I J_29 Q 177 [(0, .ref (ad h0))] [] := by
      intro J_29 hw hWF
      refine g_aload_n C dX11_laysOdds_177 rfl 0 rfl ?_
      refine g_getJ C dX11_laysOdds_178 ft_463 z0 ?_
      refine g_lstore (lv' := [(5, .long (J_29 h0 17)), (0, .ref (ad h0))]) C dX11_laysOdds_181 (by decide) rfl ?_
      refine g_aload_n C dX11_laysOdds_183 rfl 1 rfl ?_
      refine g_getJ C dX11_laysOdds_184 ft_461 z0 ?_
      refine g_lstore (lv' := [(7, .long (J_29 h0 18)), (5, .long (J_29 h0 17)), (0, .ref (ad h0))]) C dX11_laysOdds_187 (by decide) rfl ?_
      have L189_u32 : ∀ (n189 : Nat) (x5_30 : Int64) (x7_30 : Int64), wp_X11_laysOdds_L189 J_29 h0 post n189 x5_30 x7_30 → WF Z N T Q → GG p l e ({ frames := 3, cells := 0, slots := 0, locals := 72 }) s m [.ref (ad h0), .int x1].toArray below meth c 11 A D D2 0 0 (MQ below (va_Qv (fun (u : KS) => post u.2.1 ∧ u.1 = I ∧ u.2.2 = Q ∧ WF Z N T u.2.2) (Bw D D2 ad N T) A) [.ref (ad h0), .int x1].toArray s 0 0 A) ad N T I J_29 Q 189 [(0, .ref (ad h0)), (5, .long x5_30), (7, .long x7_30)] [] := by
        intro n189
        induction n189 with
        | zero => intro x5_30 x7_30 hw; exact hw.elim
        | succ n189 ih_u32 =>
          intro x5_30 x7_30 hw hWF
          unfold wp_X11_laysOdds_L189 at hw
          refine g_lload C dX11_laysOdds_189 2 rfl ?_
          refine g_lconst (v := (0 : Int64)) C dX11_laysOdds_191 (by decide) ?_
          refine g_lcmp C dX11_laysOdds_192 ?_
          refine g_if_eq (tgt := 214) C dX11_laysOdds_193 (by decide) (fun c34 => ?_) (fun c34 => ?_)
          · have hw := hw.1 c34
            refine g_aload_n C dX11_laysOdds_214 rfl 0 rfl ?_
            refine g_dup C dX11_laysOdds_215 rfl ?_
            refine g_getJ C dX11_laysOdds_216 ft_463 z0 ?_
            refine g_lload C dX11_laysOdds_219 1 rfl ?_
            refine g_ldiv C dX11_laysOdds_221 hw.1 ?_
            have hw := hw.2
            refine g_putJ C dX11_laysOdds_222 ft_459 z0 ?_
            refine g_aload_n C dX11_laysOdds_225 rfl 0 rfl ?_
            refine g_dup C dX11_laysOdds_226 rfl ?_
            refine g_getJ C dX11_laysOdds_227 ft_461 z0 ?_
            refine g_lload C dX11_laysOdds_230 1 rfl ?_
            refine g_ldiv C dX11_laysOdds_232 hw.1 ?_
            have hw := hw.2
            refine g_putJ C dX11_laysOdds_233 ft_460 z0 ?_
            exact g_vret C dX11_laysOdds_236 hr ⟨hw, rfl, rfl, hWF⟩
          · have hw := hw.2 c34
            refine g_lload C dX11_laysOdds_196 1 rfl ?_
            refine g_lload C dX11_laysOdds_198 2 rfl ?_
            refine g_lrem C dX11_laysOdds_200 hw.1 ?_
            have hw := hw.2
            refine g_lstore (lv' := [(9, .long (x5_30 - x5_30 / x7_30 * x7_30)), (0, .ref (ad h0)), (5, .long x5_30), (7, .long x7_30)]) C dX11_laysOdds_201 (by decide) rfl ?_
            refine g_lload C dX11_laysOdds_203 3 rfl ?_
            refine g_lstore (lv' := [(5, .long x7_30), (9, .long (x5_30 - x5_30 / x7_30 * x7_30)), (0, .ref (ad h0)), (7, .long x7_30)]) C dX11_laysOdds_205 (by decide) rfl ?_
            refine g_lload C dX11_laysOdds_207 1 rfl ?_
            refine g_lstore (lv' := [(7, .long (x5_30 - x5_30 / x7_30 * x7_30)), (5, .long x7_30), (9, .long (x5_30 - x5_30 / x7_30 * x7_30)), (0, .ref (ad h0))]) C dX11_laysOdds_209 (by decide) rfl ?_
            refine g_goto C dX11_laysOdds_211 (tgt := 189) (by decide) ?_
            refine g_sub [3, 1, 0] rfl ?_
            exact ih_u32 x7_30 (x5_30 - x5_30 / x7_30 * x7_30) hw hWF
      obtain ⟨n_u32, hw⟩ := hw
      refine g_sub [2, 1, 0] rfl ?_
      exact L189_u32 n_u32 (J_29 h0 17) (J_29 h0 18) hw hWF
    have L75_u28 : ∀ (n75 : Nat) (J_9 : KJ) (x5_9 : Int32), wp_X11_laysOdds_L75 I Q h0 x1 r1 (((I (rq Q h0 0) (0 : Int32).toNatClampNeg) * ((I (rq Q h0 0) (0 : Int32).toNatClampNeg) - (1 : Int32))) / (2 : Int32)) (fun J_29 => (∃ q189, wp_X11_laysOdds_L189 J_29 h0 post q189 (J_29 h0 17) (J_29 h0 18))) n75 J_9 x5_9 → WF Z N T Q → GG p l e ({ frames := 3, cells := 0, slots := 0, locals := 72 }) s m [.ref (ad h0), .int x1].toArray below meth c 11 A D D2 0 0 (MQ below (va_Qv (fun (u : KS) => post u.2.1 ∧ u.1 = I ∧ u.2.2 = Q ∧ WF Z N T u.2.2) (Bw D D2 ad N T) A) [.ref (ad h0), .int x1].toArray s 0 0 A) ad N T I J_9 Q 75 [(0, .ref (ad h0)), (1, .int x1), (2, .int r1), (4, .int (((I (rq Q h0 0) (0 : Int32).toNatClampNeg) * ((I (rq Q h0 0) (0 : Int32).toNatClampNeg) - (1 : Int32))) / (2 : Int32))), (5, .int x5_9)] [] := by
      intro n75
      induction n75 with
      | zero => intro J_9 x5_9 hw; exact hw.elim
      | succ n75 ih_u28 =>
        intro J_9 x5_9 hw hWF
        unfold wp_X11_laysOdds_L75 at hw
        refine g_iload C dX11_laysOdds_75 4 rfl ?_
        refine g_iconst (v := (1 : Int32)) C dX11_laysOdds_77 (by decide) ?_
        refine g_iload C dX11_laysOdds_78 3 rfl ?_
        refine g_ishl C dX11_laysOdds_80 ?_
        refine g_icmp_ge (tgt := 177) C dX11_laysOdds_81 (by decide) (fun c36 => ?_) (fun c36 => ?_)
        · have hw := hw.1 c36
          refine g_sub [0] rfl ?_
          exact K177_u28 J_9 hw hWF
        · have hw := hw.2 c36
          refine g_iload C dX11_laysOdds_84 4 rfl ?_
          refine g_iload_n C dX11_laysOdds_86 rfl 2 rfl ?_
          refine g_iconst (v := (-1 : Int32)) C dX11_laysOdds_87 (by decide) ?_
          refine g_ixor C dX11_laysOdds_88 ?_
          refine g_iand C dX11_laysOdds_89 ?_
          refine g_if_ne (tgt := 171) C dX11_laysOdds_90 (by decide) (fun c37 => ?_) (fun c37 => ?_)
          · have hw := hw.1 c37
            refine g_iinc (v := (x5_9 + (1 : Int32))) (lv' := [(5, .int (x5_9 + (1 : Int32))), (0, .ref (ad h0)), (1, .int x1), (2, .int r1), (4, .int (((I (rq Q h0 0) (0 : Int32).toNatClampNeg) * ((I (rq Q h0 0) (0 : Int32).toNatClampNeg) - (1 : Int32))) / (2 : Int32)))]) C dX11_laysOdds_171 (q := 4) rfl rfl (by decide) rfl ?_
            refine g_goto C dX11_laysOdds_174 (tgt := 75) (by decide) ?_
            refine g_sub [1, 2, 3, 4, 0] rfl ?_
            exact ih_u28 J_9 (x5_9 + (1 : Int32)) hw hWF
          · have hw := hw.2 c37
            refine g_aload_n C dX11_laysOdds_93 rfl 0 rfl ?_
            refine g_iload C dX11_laysOdds_94 4 rfl ?_
            refine g_callVi (As := [.int x5_9]) C dX11_laysOdds_96 ft_387 z0 ft_446 ft_447 (met_X11_areJoined l hWF z0 hw) ⟨rfl, rfl, Nat.le_of_ble_eq_true rfl, Nat.le_of_ble_eq_true rfl⟩ ⟨Nat.zero_le _, Nat.zero_le _⟩ rfl rfl (Nat.le_of_ble_eq_true rfl) (fun r38 I38 J38 Q38 hp => ?_)
            obtain ⟨hw, eI, eJ, eQ, hWF⟩ := hp
            have eI : I = I38 := Eq.symm eI
            subst eI
            have eJ : J_9 = J38 := Eq.symm eJ
            subst eJ
            have eQ : Q = Q38 := Eq.symm eQ
            subst eQ
            try dsimp only at hw hWF
            refine g_if_eq (tgt := 171) C dX11_laysOdds_99 (by decide) (fun c39 => ?_) (fun c39 => ?_)
            · have hw := hw.1 c39
              refine g_iinc (v := (x5_9 + (1 : Int32))) (lv' := [(5, .int (x5_9 + (1 : Int32))), (0, .ref (ad h0)), (1, .int x1), (2, .int r1), (4, .int (((I (rq Q h0 0) (0 : Int32).toNatClampNeg) * ((I (rq Q h0 0) (0 : Int32).toNatClampNeg) - (1 : Int32))) / (2 : Int32)))]) C dX11_laysOdds_171 (q := 4) rfl rfl (by decide) rfl ?_
              refine g_goto C dX11_laysOdds_174 (tgt := 75) (by decide) ?_
              refine g_sub [1, 2, 3, 4, 0] rfl ?_
              exact ih_u28 J_9 (x5_9 + (1 : Int32)) hw hWF
            · have hw := hw.2 c39
              refine g_lconst (v := (1 : Int64)) C dX11_laysOdds_102 (by decide) ?_
              refine g_lstore (lv' := [(6, .long (1 : Int64)), (0, .ref (ad h0)), (1, .int x1), (2, .int r1), (4, .int (((I (rq Q h0 0) (0 : Int32).toNatClampNeg) * ((I (rq Q h0 0) (0 : Int32).toNatClampNeg) - (1 : Int32))) / (2 : Int32))), (5, .int x5_9)]) C dX11_laysOdds_103 (by decide) rfl ?_
              refine g_iconst (v := (0 : Int32)) C dX11_laysOdds_105 (by decide) ?_
              refine g_istore (lv' := [(8, .int (0 : Int32)), (6, .long (1 : Int64)), (0, .ref (ad h0)), (1, .int x1), (2, .int r1), (4, .int (((I (rq Q h0 0) (0 : Int32).toNatClampNeg) * ((I (rq Q h0 0) (0 : Int32).toNatClampNeg) - (1 : Int32))) / (2 : Int32))), (5, .int x5_9)]) C dX11_laysOdds_106 (by decide) rfl ?_
              have K160_u41 : ∀ (x6_42 : Int64), (wp_X11_laysOdds_L75 I Q h0 x1 r1 (((I (rq Q h0 0) (0 : Int32).toNatClampNeg) * ((I (rq Q h0 0) (0 : Int32).toNatClampNeg) - (1 : Int32))) / (2 : Int32)) (fun J_29 => (∃ q189, wp_X11_laysOdds_L189 J_29 h0 post q189 (J_29 h0 17) (J_29 h0 18))) n75 (stj J_9 h0 17 ((J_9 h0 17) + x6_42)) (x5_9 + (1 : Int32))) → WF Z N T Q → GG p l e ({ frames := 3, cells := 0, slots := 0, locals := 72 }) s m [.ref (ad h0), .int x1].toArray below meth c 11 A D D2 0 0 (MQ below (va_Qv (fun (u : KS) => post u.2.1 ∧ u.1 = I ∧ u.2.2 = Q ∧ WF Z N T u.2.2) (Bw D D2 ad N T) A) [.ref (ad h0), .int x1].toArray s 0 0 A) ad N T I J_9 Q 160 [(0, .ref (ad h0)), (1, .int x1), (2, .int r1), (4, .int (((I (rq Q h0 0) (0 : Int32).toNatClampNeg) * ((I (rq Q h0 0) (0 : Int32).toNatClampNeg) - (1 : Int32))) / (2 : Int32))), (5, .int x5_9), (6, .long x6_42)] [] := by
                intro x6_42 hw hWF
                refine g_aload_n C dX11_laysOdds_160 rfl 0 rfl ?_
                refine g_dup C dX11_laysOdds_161 rfl ?_
                refine g_getJ C dX11_laysOdds_162 ft_463 z0 ?_
                refine g_lload C dX11_laysOdds_165 5 rfl ?_
                refine g_ladd C dX11_laysOdds_167 ?_
                refine g_putJ C dX11_laysOdds_168 ft_459 z0 ?_
                refine g_iinc (v := (x5_9 + (1 : Int32))) (lv' := [(5, .int (x5_9 + (1 : Int32))), (0, .ref (ad h0)), (1, .int x1), (2, .int r1), (4, .int (((I (rq Q h0 0) (0 : Int32).toNatClampNeg) * ((I (rq Q h0 0) (0 : Int32).toNatClampNeg) - (1 : Int32))) / (2 : Int32))), (6, .long x6_42)]) C dX11_laysOdds_171 (q := 4) rfl rfl (by decide) rfl ?_
                refine g_goto C dX11_laysOdds_174 (tgt := 75) (by decide) ?_
                refine g_sub [1, 2, 3, 4, 0] rfl ?_
                exact ih_u28 (stj J_9 h0 17 ((J_9 h0 17) + x6_42)) (x5_9 + (1 : Int32)) hw hWF
              have L108_u41 : ∀ (n108 : Nat) (x6_14 : Int64) (x8_14 : Int32), wp_X11_laysOdds_L108 x1 r1 (((I (rq Q h0 0) (0 : Int32).toNatClampNeg) * ((I (rq Q h0 0) (0 : Int32).toNatClampNeg) - (1 : Int32))) / (2 : Int32)) x5_9 (fun x6_42 => wp_X11_laysOdds_L75 I Q h0 x1 r1 (((I (rq Q h0 0) (0 : Int32).toNatClampNeg) * ((I (rq Q h0 0) (0 : Int32).toNatClampNeg) - (1 : Int32))) / (2 : Int32)) (fun J_29 => (∃ q189, wp_X11_laysOdds_L189 J_29 h0 post q189 (J_29 h0 17) (J_29 h0 18))) n75 (stj J_9 h0 17 ((J_9 h0 17) + x6_42)) (x5_9 + (1 : Int32))) n108 x6_14 x8_14 → WF Z N T Q → GG p l e ({ frames := 3, cells := 0, slots := 0, locals := 72 }) s m [.ref (ad h0), .int x1].toArray below meth c 11 A D D2 0 0 (MQ below (va_Qv (fun (u : KS) => post u.2.1 ∧ u.1 = I ∧ u.2.2 = Q ∧ WF Z N T u.2.2) (Bw D D2 ad N T) A) [.ref (ad h0), .int x1].toArray s 0 0 A) ad N T I J_9 Q 108 [(0, .ref (ad h0)), (1, .int x1), (2, .int r1), (4, .int (((I (rq Q h0 0) (0 : Int32).toNatClampNeg) * ((I (rq Q h0 0) (0 : Int32).toNatClampNeg) - (1 : Int32))) / (2 : Int32))), (5, .int x5_9), (6, .long x6_14), (8, .int x8_14)] [] := by
                intro n108
                induction n108 with
                | zero => intro x6_14 x8_14 hw; exact hw.elim
                | succ n108 ih_u41 =>
                  intro x6_14 x8_14 hw hWF
                  unfold wp_X11_laysOdds_L108 at hw
                  refine g_iload C dX11_laysOdds_108 6 rfl ?_
                  refine g_iload C dX11_laysOdds_110 3 rfl ?_
                  refine g_icmp_ge (tgt := 160) C dX11_laysOdds_112 (by decide) (fun c44 => ?_) (fun c44 => ?_)
                  · have hw := hw.1 c44
                    refine g_sub [0, 1, 2, 3, 4, 5] rfl ?_
                    exact K160_u41 x6_14 hw hWF
                  · have hw := hw.2 c44
                    refine g_lload C dX11_laysOdds_115 5 rfl ?_
                    refine g_iload_n C dX11_laysOdds_117 rfl 2 rfl ?_
                    refine g_iload C dX11_laysOdds_118 6 rfl ?_
                    refine g_callSi (As := [.int r1, .int x8_14]) C dX11_laysOdds_120 ft_381 ft_382 (met_X11_has l hWF  hw) ⟨rfl, rfl, Nat.le_of_ble_eq_true rfl, Nat.le_of_ble_eq_true rfl⟩ ⟨Nat.zero_le _, Nat.zero_le _⟩ rfl rfl (Nat.le_of_ble_eq_true rfl) (fun r45 I45 J45 Q45 hp => ?_)
                    obtain ⟨hw, eI, eJ, eQ, hWF⟩ := hp
                    have eI : I = I45 := Eq.symm eI
                    subst eI
                    have eJ : J_9 = J45 := Eq.symm eJ
                    subst eJ
                    have eQ : Q = Q45 := Eq.symm eQ
                    subst eQ
                    try dsimp only at hw hWF
                    refine g_if_ne (tgt := 130) C dX11_laysOdds_123 (by decide) (fun c46 => ?_) (fun c46 => ?_)
                    · have hw := hw.1 c46
                      refine g_iload C dX11_laysOdds_130 4 rfl ?_
                      refine g_iload C dX11_laysOdds_132 6 rfl ?_
                      refine g_callSi (As := [.int x5_9, .int x8_14]) C dX11_laysOdds_134 ft_381 ft_382 (met_X11_has l hWF  hw) ⟨rfl, rfl, Nat.le_of_ble_eq_true rfl, Nat.le_of_ble_eq_true rfl⟩ ⟨Nat.zero_le _, Nat.zero_le _⟩ rfl rfl (Nat.le_of_ble_eq_true rfl) (fun r47 I47 J47 Q47 hp => ?_)
                      obtain ⟨hw, eI, eJ, eQ, hWF⟩ := hp
                      have eI : I = I47 := Eq.symm eI
                      subst eI
                      have eJ : J_9 = J47 := Eq.symm eJ
                      subst eJ
                      have eQ : Q = Q47 := Eq.symm eQ
                      subst eQ
                      try dsimp only at hw hWF
                      refine g_if_eq (tgt := 149) C dX11_laysOdds_137 (by decide) (fun c48 => ?_) (fun c48 => ?_)
                      · have hw := hw.1 c48
                        refine g_iload_n C dX11_laysOdds_149 rfl 1 rfl ?_
                        refine g_i2l C dX11_laysOdds_150 ?_
                        refine g_lmul C dX11_laysOdds_151 ?_
                        refine g_lstore (lv' := [(6, .long (x6_14 * (x1.toInt64))), (0, .ref (ad h0)), (1, .int x1), (2, .int r1), (4, .int (((I (rq Q h0 0) (0 : Int32).toNatClampNeg) * ((I (rq Q h0 0) (0 : Int32).toNatClampNeg) - (1 : Int32))) / (2 : Int32))), (5, .int x5_9), (8, .int x8_14)]) C dX11_laysOdds_152 (by decide) rfl ?_
                        refine g_iinc (v := (x8_14 + (1 : Int32))) (lv' := [(8, .int (x8_14 + (1 : Int32))), (6, .long (x6_14 * (x1.toInt64))), (0, .ref (ad h0)), (1, .int x1), (2, .int r1), (4, .int (((I (rq Q h0 0) (0 : Int32).toNatClampNeg) * ((I (rq Q h0 0) (0 : Int32).toNatClampNeg) - (1 : Int32))) / (2 : Int32))), (5, .int x5_9)]) C dX11_laysOdds_154 (q := 6) rfl rfl (by decide) rfl ?_
                        refine g_goto C dX11_laysOdds_157 (tgt := 108) (by decide) ?_
                        refine g_sub [2, 3, 4, 5, 6, 1, 0] rfl ?_
                        exact ih_u41 (x6_14 * (x1.toInt64)) (x8_14 + (1 : Int32)) hw hWF
                      · have hw := hw.2 c48
                        refine g_ldc2 C dX11_laysOdds_140 ft_462 ?_
                        refine g_iload_n C dX11_laysOdds_143 rfl 1 rfl ?_
                        refine g_i2l C dX11_laysOdds_144 ?_
                        refine g_lsub C dX11_laysOdds_145 ?_
                        refine g_goto C dX11_laysOdds_146 (tgt := 151) (by decide) ?_
                        refine g_lmul C dX11_laysOdds_151 ?_
                        refine g_lstore (lv' := [(6, .long (x6_14 * ((10 : Int64) - (x1.toInt64)))), (0, .ref (ad h0)), (1, .int x1), (2, .int r1), (4, .int (((I (rq Q h0 0) (0 : Int32).toNatClampNeg) * ((I (rq Q h0 0) (0 : Int32).toNatClampNeg) - (1 : Int32))) / (2 : Int32))), (5, .int x5_9), (8, .int x8_14)]) C dX11_laysOdds_152 (by decide) rfl ?_
                        refine g_iinc (v := (x8_14 + (1 : Int32))) (lv' := [(8, .int (x8_14 + (1 : Int32))), (6, .long (x6_14 * ((10 : Int64) - (x1.toInt64)))), (0, .ref (ad h0)), (1, .int x1), (2, .int r1), (4, .int (((I (rq Q h0 0) (0 : Int32).toNatClampNeg) * ((I (rq Q h0 0) (0 : Int32).toNatClampNeg) - (1 : Int32))) / (2 : Int32))), (5, .int x5_9)]) C dX11_laysOdds_154 (q := 6) rfl rfl (by decide) rfl ?_
                        refine g_goto C dX11_laysOdds_157 (tgt := 108) (by decide) ?_
                        refine g_sub [2, 3, 4, 5, 6, 1, 0] rfl ?_
                        exact ih_u41 (x6_14 * ((10 : Int64) - (x1.toInt64))) (x8_14 + (1 : Int32)) hw hWF
                    · have hw := hw.2 c46
                      refine g_lconst (v := (1 : Int64)) C dX11_laysOdds_126 (by decide) ?_
                      refine g_goto C dX11_laysOdds_127 (tgt := 151) (by decide) ?_
                      refine g_lmul C dX11_laysOdds_151 ?_
                      refine g_lstore (lv' := [(6, .long (x6_14 * (1 : Int64))), (0, .ref (ad h0)), (1, .int x1), (2, .int r1), (4, .int (((I (rq Q h0 0) (0 : Int32).toNatClampNeg) * ((I (rq Q h0 0) (0 : Int32).toNatClampNeg) - (1 : Int32))) / (2 : Int32))), (5, .int x5_9), (8, .int x8_14)]) C dX11_laysOdds_152 (by decide) rfl ?_
                      refine g_iinc (v := (x8_14 + (1 : Int32))) (lv' := [(8, .int (x8_14 + (1 : Int32))), (6, .long (x6_14 * (1 : Int64))), (0, .ref (ad h0)), (1, .int x1), (2, .int r1), (4, .int (((I (rq Q h0 0) (0 : Int32).toNatClampNeg) * ((I (rq Q h0 0) (0 : Int32).toNatClampNeg) - (1 : Int32))) / (2 : Int32))), (5, .int x5_9)]) C dX11_laysOdds_154 (q := 6) rfl rfl (by decide) rfl ?_
                      refine g_goto C dX11_laysOdds_157 (tgt := 108) (by decide) ?_
                      refine g_sub [2, 3, 4, 5, 6, 1, 0] rfl ?_
                      exact ih_u41 (x6_14 * (1 : Int64)) (x8_14 + (1 : Int32)) hw hWF
              obtain ⟨n_u41, hw⟩ := hw
              refine g_sub [2, 3, 4, 5, 6, 1, 0] rfl ?_
              exact L108_u41 n_u41 (1 : Int64) (0 : Int32) hw hWF
    obtain ⟨n_u28, hw⟩ := hw
    refine g_sub [1, 2, 3, 4, 0] rfl ?_
    exact L75_u28 n_u28 J_8 (0 : Int32) hw hWF
  have L34_u7 : ∀ (n34 : Nat) (J_3 : KJ) (x5_3 : Int32), wp_X11_laysOdds_L34 h0 r1 (((I (rq Q h0 0) (0 : Int32).toNatClampNeg) * ((I (rq Q h0 0) (0 : Int32).toNatClampNeg) - (1 : Int32))) / (2 : Int32)) (fun J_8 => (∃ q75, wp_X11_laysOdds_L75 I Q h0 x1 r1 (((I (rq Q h0 0) (0 : Int32).toNatClampNeg) * ((I (rq Q h0 0) (0 : Int32).toNatClampNeg) - (1 : Int32))) / (2 : Int32)) (fun J_29 => (∃ q189, wp_X11_laysOdds_L189 J_29 h0 post q189 (J_29 h0 17) (J_29 h0 18))) q75 J_8 (0 : Int32))) n34 J_3 x5_3 → WF Z N T Q → GG p l e ({ frames := 3, cells := 0, slots := 0, locals := 72 }) s m [.ref (ad h0), .int x1].toArray below meth c 11 A D D2 0 0 (MQ below (va_Qv (fun (u : KS) => post u.2.1 ∧ u.1 = I ∧ u.2.2 = Q ∧ WF Z N T u.2.2) (Bw D D2 ad N T) A) [.ref (ad h0), .int x1].toArray s 0 0 A) ad N T I J_3 Q 34 [(0, .ref (ad h0)), (1, .int x1), (2, .int r1), (4, .int (((I (rq Q h0 0) (0 : Int32).toNatClampNeg) * ((I (rq Q h0 0) (0 : Int32).toNatClampNeg) - (1 : Int32))) / (2 : Int32))), (5, .int x5_3)] [] := by
    intro n34
    induction n34 with
    | zero => intro J_3 x5_3 hw; exact hw.elim
    | succ n34 ih_u7 =>
      intro J_3 x5_3 hw hWF
      unfold wp_X11_laysOdds_L34 at hw
      refine g_iload C dX11_laysOdds_34 4 rfl ?_
      refine g_iload C dX11_laysOdds_36 3 rfl ?_
      refine g_icmp_ge (tgt := 72) C dX11_laysOdds_38 (by decide) (fun c50 => ?_) (fun c50 => ?_)
      · have hw := hw.1 c50
        refine g_sub [0, 1, 2, 3] rfl ?_
        exact K72_u7 J_3 hw hWF
      · have hw := hw.2 c50
        refine g_aload_n C dX11_laysOdds_41 rfl 0 rfl ?_
        refine g_dup C dX11_laysOdds_42 rfl ?_
        refine g_getJ C dX11_laysOdds_43 ft_461 z0 ?_
        refine g_iload_n C dX11_laysOdds_46 rfl 2 rfl ?_
        refine g_iload C dX11_laysOdds_47 4 rfl ?_
        refine g_callSi (As := [.int r1, .int x5_3]) C dX11_laysOdds_49 ft_381 ft_382 (met_X11_has l hWF  hw) ⟨rfl, rfl, Nat.le_of_ble_eq_true rfl, Nat.le_of_ble_eq_true rfl⟩ ⟨Nat.zero_le _, Nat.zero_le _⟩ rfl rfl (Nat.le_of_ble_eq_true rfl) (fun r51 I51 J51 Q51 hp => ?_)
        obtain ⟨hw, eI, eJ, eQ, hWF⟩ := hp
        have eI : I = I51 := Eq.symm eI
        subst eI
        have eJ : J_3 = J51 := Eq.symm eJ
        subst eJ
        have eQ : Q = Q51 := Eq.symm eQ
        subst eQ
        try dsimp only at hw hWF
        refine g_if_eq (tgt := 61) C dX11_laysOdds_52 (by decide) (fun c52 => ?_) (fun c52 => ?_)
        · have hw := hw.1 c52
          refine g_lconst (v := (1 : Int64)) C dX11_laysOdds_61 (by decide) ?_
          refine g_lmul C dX11_laysOdds_62 ?_
          refine g_putJ C dX11_laysOdds_63 ft_460 z0 ?_
          refine g_iinc (v := (x5_3 + (1 : Int32))) (lv' := [(5, .int (x5_3 + (1 : Int32))), (0, .ref (ad h0)), (1, .int x1), (2, .int r1), (4, .int (((I (rq Q h0 0) (0 : Int32).toNatClampNeg) * ((I (rq Q h0 0) (0 : Int32).toNatClampNeg) - (1 : Int32))) / (2 : Int32)))]) C dX11_laysOdds_66 (q := 4) rfl rfl (by decide) rfl ?_
          refine g_goto C dX11_laysOdds_69 (tgt := 34) (by decide) ?_
          refine g_sub [1, 2, 3, 4, 0] rfl ?_
          exact ih_u7 (stj J_3 h0 18 ((J_3 h0 18) * (1 : Int64))) (x5_3 + (1 : Int32)) hw hWF
        · have hw := hw.2 c52
          refine g_ldc2 C dX11_laysOdds_55 ft_462 ?_
          refine g_goto C dX11_laysOdds_58 (tgt := 62) (by decide) ?_
          refine g_lmul C dX11_laysOdds_62 ?_
          refine g_putJ C dX11_laysOdds_63 ft_460 z0 ?_
          refine g_iinc (v := (x5_3 + (1 : Int32))) (lv' := [(5, .int (x5_3 + (1 : Int32))), (0, .ref (ad h0)), (1, .int x1), (2, .int r1), (4, .int (((I (rq Q h0 0) (0 : Int32).toNatClampNeg) * ((I (rq Q h0 0) (0 : Int32).toNatClampNeg) - (1 : Int32))) / (2 : Int32)))]) C dX11_laysOdds_66 (q := 4) rfl rfl (by decide) rfl ?_
          refine g_goto C dX11_laysOdds_69 (tgt := 34) (by decide) ?_
          refine g_sub [1, 2, 3, 4, 0] rfl ?_
          exact ih_u7 (stj J_3 h0 18 ((J_3 h0 18) * (10 : Int64))) (x5_3 + (1 : Int32)) hw hWF
  obtain ⟨n_u7, hw⟩ := hw
  refine g_sub [4, 5, 3, 1, 0] rfl ?_
  exact L34_u7 n_u7 (stj (stj J h0 17 (0 : Int64)) h0 18 (1 : Int64)) (0 : Int32) hw hWF
def wp_X11_joined (I : KI) (J : KJ) (Q : KQ) (h0 : Nat) (x1 : Int32) (x2 : Int32) (post : Int64 → KJ → Prop) : Prop := wp_X11_in (x1.toInt64) (0 : Int64) (10 : Int64) (fun r1 => ((r1 = 0 → post (-1 : Int64) J) ∧ (¬ r1 = 0 → wp_X11_in (x2.toInt64) (0 : Int64) (1 : Int64) (fun r3 => ((¬ r3 = 0 → wp_X11_laysOdds I J Q h0 x1 (fun J5 => ((¬ x2 = 0 → post (J5 h0 18) J5) ∧ (x2 = 0 → post (J5 h0 17) J5)))) ∧ (r3 = 0 → post (-1 : Int64) J))))))
set_option maxHeartbeats 4000000 in
set_option maxRecDepth 100000 in
theorem met_X11_joined {Z : Nat → Prop} {A : Nat → Prop} {D : va_G} {D2 : Nat → ClassId} {ad : Nat → Nat} {N : Nat} {T : Nat → Nat × Nat} (l : Launch) {I : KI} {J : KJ} {Q : KQ} {h0 : Nat} {x1 : Int32} {x2 : Int32} {post : Int64 → KJ → Prop} (hWF : WF Z N T Q) (z0 : OKr Z N T h0 (11, 0)) (hw : wp_X11_joined I J Q h0 x1 x2 post) : Met l yX11_joined (.code yX11_joined cX11_joined 3 (some .long) :: BIG) ({ frames := 4, cells := 0, slots := 0, locals := 102 }) (Pr D D2 A ad N T I J Q [.ref (ad h0), .int x1, .int x2]) (va_Ql (fun (r : Int64) (u : KS) => post r u.2.1 ∧ u.1 = I ∧ u.2.2 = Q ∧ WF Z N T u.2.2) (Bw D D2 ad N T) A) 0 0 A := by
  refine Met_GG (lv0 := [(0, .ref (ad h0)), (1, .int x1), (2, .int x2)]) (by decide +kernel) [.ref (ad h0), .int x1, .int x2] (Nat.le_of_ble_eq_true rfl) rfl ?_
  intro p e s m below meth c C hr
  have C : CX p s m [.ref (ad h0), .int x1, .int x2].toArray meth c cX11_joined 3 RX11 A D D2 := C
  unfold wp_X11_joined at hw
  refine g_iload_n C dX11_joined_0 rfl 1 rfl ?_
  refine g_i2l C dX11_joined_1 ?_
  refine g_lconst (v := (0 : Int64)) C dX11_joined_2 (by decide) ?_
  refine g_ldc2 C dX11_joined_3 ft_462 ?_
  refine g_callSi (As := [.long (x1.toInt64), .long (0 : Int64), .long (10 : Int64)]) C dX11_joined_6 ft_397 ft_398 (met_X11_in l hWF  hw) ⟨rfl, rfl, Nat.le_of_ble_eq_true rfl, Nat.le_of_ble_eq_true rfl⟩ ⟨Nat.zero_le _, Nat.zero_le _⟩ rfl rfl (Nat.le_of_ble_eq_true rfl) (fun r1 I1 J1 Q1 hp => ?_)
  obtain ⟨hw, eI, eJ, eQ, hWF⟩ := hp
  have eI : I = I1 := Eq.symm eI
  subst eI
  have eJ : J = J1 := Eq.symm eJ
  subst eJ
  have eQ : Q = Q1 := Eq.symm eQ
  subst eQ
  try dsimp only at hw hWF
  refine g_if_eq (tgt := 22) C dX11_joined_9 (by decide) (fun c2 => ?_) (fun c2 => ?_)
  · have hw := hw.1 c2
    refine g_ldc2 C dX11_joined_22 ft_464 ?_
    exact g_lret C dX11_joined_25 hr ⟨hw, rfl, rfl, hWF⟩
  · have hw := hw.2 c2
    refine g_iload_n C dX11_joined_12 rfl 2 rfl ?_
    refine g_i2l C dX11_joined_13 ?_
    refine g_lconst (v := (0 : Int64)) C dX11_joined_14 (by decide) ?_
    refine g_lconst (v := (1 : Int64)) C dX11_joined_15 (by decide) ?_
    refine g_callSi (As := [.long (x2.toInt64), .long (0 : Int64), .long (1 : Int64)]) C dX11_joined_16 ft_397 ft_398 (met_X11_in l hWF  hw) ⟨rfl, rfl, Nat.le_of_ble_eq_true rfl, Nat.le_of_ble_eq_true rfl⟩ ⟨Nat.zero_le _, Nat.zero_le _⟩ rfl rfl (Nat.le_of_ble_eq_true rfl) (fun r3 I3 J3 Q3 hp => ?_)
    obtain ⟨hw, eI, eJ, eQ, hWF⟩ := hp
    have eI : I = I3 := Eq.symm eI
    subst eI
    have eJ : J = J3 := Eq.symm eJ
    subst eJ
    have eQ : Q = Q3 := Eq.symm eQ
    subst eQ
    try dsimp only at hw hWF
    refine g_if_ne (tgt := 26) C dX11_joined_19 (by decide) (fun c4 => ?_) (fun c4 => ?_)
    · have hw := hw.1 c4
      refine g_aload_n C dX11_joined_26 rfl 0 rfl ?_
      refine g_iload_n C dX11_joined_27 rfl 1 rfl ?_
      refine g_callVv (As := [.int x1]) C dX11_joined_28 ft_387 z0 ft_465 ft_466 (met_X11_laysOdds l hWF z0 hw) ⟨rfl, rfl, Nat.le_of_ble_eq_true rfl, Nat.le_of_ble_eq_true rfl⟩ ⟨Nat.zero_le _, Nat.zero_le _⟩ rfl rfl (Nat.le_of_ble_eq_true rfl) (fun I5 J5 Q5 hp => ?_)
      obtain ⟨hw, eI, eQ, hWF⟩ := hp
      have eI : I = I5 := Eq.symm eI
      subst eI
      have eQ : Q = Q5 := Eq.symm eQ
      subst eQ
      try dsimp only at hw hWF
      refine g_iload_n C dX11_joined_31 rfl 2 rfl ?_
      refine g_if_ne (tgt := 42) C dX11_joined_32 (by decide) (fun c6 => ?_) (fun c6 => ?_)
      · have hw := hw.1 c6
        refine g_aload_n C dX11_joined_42 rfl 0 rfl ?_
        refine g_getJ C dX11_joined_43 ft_461 z0 ?_
        exact g_lret C dX11_joined_46 hr ⟨hw, rfl, rfl, hWF⟩
      · have hw := hw.2 c6
        refine g_aload_n C dX11_joined_35 rfl 0 rfl ?_
        refine g_getJ C dX11_joined_36 ft_463 z0 ?_
        refine g_goto C dX11_joined_39 (tgt := 46) (by decide) ?_
        exact g_lret C dX11_joined_46 hr ⟨hw, rfl, rfl, hWF⟩
    · have hw := hw.2 c4
      refine g_ldc2 C dX11_joined_22 ft_464 ?_
      exact g_lret C dX11_joined_25 hr ⟨hw, rfl, rfl, hWF⟩
def wp_X11_tell (I : KI) (Q : KQ) (h0 : Nat) (x1 : Int32) (x2 : Int32) (post : Int32 → KI → Prop) : Prop := ((¬ x1 = 0 → ((¬ x1 = (1 : Int32) → ((¬ x1 = (2 : Int32) → ((¬ x1 = (3 : Int32) → post (-1 : Int32) I) ∧ (x1 = (3 : Int32) → wp_X11_in (x2.toInt64) (1 : Int64) (9 : Int64) (fun r6 => ((r6 = 0 → post (-1 : Int32) I) ∧ (¬ r6 = 0 → (vp_in x1 69 ∧ ((¬ (I (rq Q h0 0) x1.toNatClampNeg) = x2 → wp_X11_remembers I Q h0 (fun I12 => (vp_in x1 69 ∧ (((2 : Int32) ≤ x1 → ((¬ x1 = 0 → post (I (rq Q h0 0) x1.toNatClampNeg) (sti I12 (rq Q h0 0) x1.toNatClampNeg x2)) ∧ (x1 = 0 → wp_X11_laysPath (sti I12 (rq Q h0 0) x1.toNatClampNeg x2) Q h0 (fun I16 => post (I (rq Q h0 0) x1.toNatClampNeg) I16)))) ∧ (¬ (2 : Int32) ≤ x1 → wp_X11_forgets (sti I12 (rq Q h0 0) x1.toNatClampNeg x2) Q h0 (fun I17 => ((¬ x1 = 0 → post (I (rq Q h0 0) x1.toNatClampNeg) I17) ∧ (x1 = 0 → wp_X11_laysPath I17 Q h0 (fun I19 => post (I (rq Q h0 0) x1.toNatClampNeg) I19))))))))) ∧ ((I (rq Q h0 0) x1.toNatClampNeg) = x2 → post (-2 : Int32) I))))))))) ∧ (x1 = (2 : Int32) → wp_X11_in (x2.toInt64) (0 : Int64) (3 : Int64) (fun r20 => ((¬ r20 = 0 → (vp_in x1 69 ∧ ((¬ (I (rq Q h0 0) x1.toNatClampNeg) = x2 → wp_X11_remembers I Q h0 (fun I24 => (vp_in x1 69 ∧ (((2 : Int32) ≤ x1 → ((¬ x1 = 0 → post (I (rq Q h0 0) x1.toNatClampNeg) (sti I24 (rq Q h0 0) x1.toNatClampNeg x2)) ∧ (x1 = 0 → wp_X11_laysPath (sti I24 (rq Q h0 0) x1.toNatClampNeg x2) Q h0 (fun I28 => post (I (rq Q h0 0) x1.toNatClampNeg) I28)))) ∧ (¬ (2 : Int32) ≤ x1 → wp_X11_forgets (sti I24 (rq Q h0 0) x1.toNatClampNeg x2) Q h0 (fun I29 => ((¬ x1 = 0 → post (I (rq Q h0 0) x1.toNatClampNeg) I29) ∧ (x1 = 0 → wp_X11_laysPath I29 Q h0 (fun I31 => post (I (rq Q h0 0) x1.toNatClampNeg) I31))))))))) ∧ ((I (rq Q h0 0) x1.toNatClampNeg) = x2 → post (-2 : Int32) I)))) ∧ (r20 = 0 → post (-1 : Int32) I)))))) ∧ (x1 = (1 : Int32) → wp_X11_in (x2.toInt64) (1 : Int64) (8 : Int64) (fun r32 => ((¬ r32 = 0 → (vp_in x1 69 ∧ ((¬ (I (rq Q h0 0) x1.toNatClampNeg) = x2 → wp_X11_remembers I Q h0 (fun I36 => (vp_in x1 69 ∧ (((2 : Int32) ≤ x1 → ((¬ x1 = 0 → post (I (rq Q h0 0) x1.toNatClampNeg) (sti I36 (rq Q h0 0) x1.toNatClampNeg x2)) ∧ (x1 = 0 → wp_X11_laysPath (sti I36 (rq Q h0 0) x1.toNatClampNeg x2) Q h0 (fun I40 => post (I (rq Q h0 0) x1.toNatClampNeg) I40)))) ∧ (¬ (2 : Int32) ≤ x1 → wp_X11_forgets (sti I36 (rq Q h0 0) x1.toNatClampNeg x2) Q h0 (fun I41 => ((¬ x1 = 0 → post (I (rq Q h0 0) x1.toNatClampNeg) I41) ∧ (x1 = 0 → wp_X11_laysPath I41 Q h0 (fun I43 => post (I (rq Q h0 0) x1.toNatClampNeg) I43))))))))) ∧ ((I (rq Q h0 0) x1.toNatClampNeg) = x2 → post (-2 : Int32) I)))) ∧ (r32 = 0 → post (-1 : Int32) I)))))) ∧ (x1 = 0 → wp_X11_in (x2.toInt64) (2 : Int64) (6 : Int64) (fun r44 => ((¬ r44 = 0 → (vp_in x1 69 ∧ ((¬ (I (rq Q h0 0) x1.toNatClampNeg) = x2 → wp_X11_remembers I Q h0 (fun I48 => (vp_in x1 69 ∧ (((2 : Int32) ≤ x1 → ((¬ x1 = 0 → post (I (rq Q h0 0) x1.toNatClampNeg) (sti I48 (rq Q h0 0) x1.toNatClampNeg x2)) ∧ (x1 = 0 → wp_X11_laysPath (sti I48 (rq Q h0 0) x1.toNatClampNeg x2) Q h0 (fun I52 => post (I (rq Q h0 0) x1.toNatClampNeg) I52)))) ∧ (¬ (2 : Int32) ≤ x1 → wp_X11_forgets (sti I48 (rq Q h0 0) x1.toNatClampNeg x2) Q h0 (fun I53 => ((¬ x1 = 0 → post (I (rq Q h0 0) x1.toNatClampNeg) I53) ∧ (x1 = 0 → wp_X11_laysPath I53 Q h0 (fun I55 => post (I (rq Q h0 0) x1.toNatClampNeg) I55))))))))) ∧ ((I (rq Q h0 0) x1.toNatClampNeg) = x2 → post (-2 : Int32) I)))) ∧ (r44 = 0 → post (-1 : Int32) I)))))
set_option maxHeartbeats 4000000 in
set_option maxRecDepth 100000 in
theorem met_X11_tell {Z : Nat → Prop} {A : Nat → Prop} {D : va_G} {D2 : Nat → ClassId} {ad : Nat → Nat} {N : Nat} {T : Nat → Nat × Nat} (l : Launch) {I : KI} {J : KJ} {Q : KQ} {h0 : Nat} {x1 : Int32} {x2 : Int32} {post : Int32 → KI → Prop} (hWF : WF Z N T Q) (z0 : OKr Z N T h0 (11, 0)) (hw : wp_X11_tell I Q h0 x1 x2 post) : Met l yX11_tell (.code yX11_tell cX11_tell 5 (some .int) :: BIG) ({ frames := 2, cells := 0, slots := 0, locals := 45 }) (Pr D D2 A ad N T I J Q [.ref (ad h0), .int x1, .int x2]) (va_Qi (fun (r : Int32) (u : KS) => post r u.1 ∧ u.2.1 = J ∧ u.2.2 = Q ∧ WF Z N T u.2.2) (Bw D D2 ad N T) A) 0 0 A := by
  refine Met_GG (lv0 := [(0, .ref (ad h0)), (1, .int x1), (2, .int x2)]) (by decide +kernel) [.ref (ad h0), .int x1, .int x2] (Nat.le_of_ble_eq_true rfl) rfl ?_
  intro p e s m below meth c C hr
  have C : CX p s m [.ref (ad h0), .int x1, .int x2].toArray meth c cX11_tell 5 RX11 A D D2 := C
  unfold wp_X11_tell at hw
  refine g_iload_n C dX11_tell_0 rfl 1 rfl ?_
  refine g_if_ne (tgt := 18) C dX11_tell_1 (by decide) (fun c1 => ?_) (fun c1 => ?_)
  · have hw := hw.1 c1
    refine g_iload_n C dX11_tell_18 rfl 1 rfl ?_
    refine g_iconst (v := (1 : Int32)) C dX11_tell_19 (by decide) ?_
    refine g_icmp_ne (tgt := 35) C dX11_tell_20 (by decide) (fun c2 => ?_) (fun c2 => ?_)
    · have hw := hw.1 c2
      refine g_iload_n C dX11_tell_35 rfl 1 rfl ?_
      refine g_iconst (v := (2 : Int32)) C dX11_tell_36 (by decide) ?_
      refine g_icmp_ne (tgt := 52) C dX11_tell_37 (by decide) (fun c3 => ?_) (fun c3 => ?_)
      · have hw := hw.1 c3
        refine g_iload_n C dX11_tell_52 rfl 1 rfl ?_
        refine g_iconst (v := (3 : Int32)) C dX11_tell_53 (by decide) ?_
        refine g_icmp_ne (tgt := 73) C dX11_tell_54 (by decide) (fun c4 => ?_) (fun c4 => ?_)
        · have hw := hw.1 c4
          refine g_iconst (v := (0 : Int32)) C dX11_tell_73 (by decide) ?_
          refine g_istore_n (lv' := [(3, .int (0 : Int32)), (0, .ref (ad h0)), (1, .int x1), (2, .int x2)]) C dX11_tell_74 rfl (by decide) rfl ?_
          refine g_iload_n C dX11_tell_75 rfl 0 rfl ?_
          refine g_if_ne (tgt := 81) C dX11_tell_76 (by decide) (fun c5 => absurd c5 (by decide)) (fun _ => ?_)
          refine g_iconst (v := (-1 : Int32)) C dX11_tell_79 (by decide) ?_
          exact g_iret C dX11_tell_80 hr ⟨hw, rfl, rfl, hWF⟩
        · have hw := hw.2 c4
          refine g_iload_n C dX11_tell_57 rfl 2 rfl ?_
          refine g_i2l C dX11_tell_58 ?_
          refine g_lconst (v := (1 : Int64)) C dX11_tell_59 (by decide) ?_
          refine g_ldc2 C dX11_tell_60 ft_456 ?_
          refine g_callSi (As := [.long (x2.toInt64), .long (1 : Int64), .long (9 : Int64)]) C dX11_tell_63 ft_397 ft_398 (met_X11_in l hWF  hw) ⟨rfl, rfl, Nat.le_of_ble_eq_true rfl, Nat.le_of_ble_eq_true rfl⟩ ⟨Nat.zero_le _, Nat.zero_le _⟩ rfl rfl (Nat.le_of_ble_eq_true rfl) (fun r6 I6 J6 Q6 hp => ?_)
          obtain ⟨hw, eI, eJ, eQ, hWF⟩ := hp
          have eI : I = I6 := Eq.symm eI
          subst eI
          have eJ : J = J6 := Eq.symm eJ
          subst eJ
          have eQ : Q = Q6 := Eq.symm eQ
          subst eQ
          try dsimp only at hw hWF
          refine g_if_eq (tgt := 73) C dX11_tell_66 (by decide) (fun c7 => ?_) (fun c7 => ?_)
          · have hw := hw.1 c7
            refine g_iconst (v := (0 : Int32)) C dX11_tell_73 (by decide) ?_
            refine g_istore_n (lv' := [(3, .int (0 : Int32)), (0, .ref (ad h0)), (1, .int x1), (2, .int x2)]) C dX11_tell_74 rfl (by decide) rfl ?_
            refine g_iload_n C dX11_tell_75 rfl 0 rfl ?_
            refine g_if_ne (tgt := 81) C dX11_tell_76 (by decide) (fun c8 => absurd c8 (by decide)) (fun _ => ?_)
            refine g_iconst (v := (-1 : Int32)) C dX11_tell_79 (by decide) ?_
            exact g_iret C dX11_tell_80 hr ⟨hw, rfl, rfl, hWF⟩
          · have hw := hw.2 c7
            refine g_iconst (v := (1 : Int32)) C dX11_tell_69 (by decide) ?_
            refine g_goto C dX11_tell_70 (tgt := 74) (by decide) ?_
            refine g_istore_n (lv' := [(3, .int (1 : Int32)), (0, .ref (ad h0)), (1, .int x1), (2, .int x2)]) C dX11_tell_74 rfl (by decide) rfl ?_
            refine g_iload_n C dX11_tell_75 rfl 0 rfl ?_
            refine g_if_ne (tgt := 81) C dX11_tell_76 (by decide) (fun _ => ?_) (fun c9 => absurd c9 (by decide))
            refine g_aload_n C dX11_tell_81 rfl 1 rfl ?_
            refine g_getQ C dX11_tell_82 ft_363 z0 (hWF.q z0 0 rfl) ?_
            have zz10 := hWF.r z0 0 rfl
            refine g_iload_n C dX11_tell_85 rfl 2 rfl ?_
            refine g_iald C dX11_tell_86 zz10 hw.1 ?_
            have hw := hw.2
            refine g_istore (lv' := [(4, .int (I (rq Q h0 0) x1.toNatClampNeg)), (3, .int (1 : Int32)), (0, .ref (ad h0)), (1, .int x1), (2, .int x2)]) C dX11_tell_87 (by decide) rfl ?_
            refine g_iload C dX11_tell_89 0 rfl ?_
            refine g_iload_n C dX11_tell_91 rfl 4 rfl ?_
            refine g_icmp_ne (tgt := 98) C dX11_tell_92 (by decide) (fun c11 => ?_) (fun c11 => ?_)
            · have hw := hw.1 c11
              refine g_aload_n C dX11_tell_98 rfl 2 rfl ?_
              refine g_callVv (As := []) C dX11_tell_99 ft_387 z0 ft_430 ft_431 (met_X11_remembers l hWF z0 hw) ⟨rfl, rfl, Nat.le_of_ble_eq_true rfl, Nat.le_of_ble_eq_true rfl⟩ ⟨Nat.zero_le _, Nat.zero_le _⟩ rfl rfl (Nat.le_of_ble_eq_true rfl) (fun I12 J12 Q12 hp => ?_)
              obtain ⟨hw, eJ, eQ, hWF⟩ := hp
              have eJ : J = J12 := Eq.symm eJ
              subst eJ
              have eQ : Q = Q12 := Eq.symm eQ
              subst eQ
              try dsimp only at hw hWF
              refine g_aload_n C dX11_tell_102 rfl 2 rfl ?_
              refine g_getQ C dX11_tell_103 ft_363 z0 (hWF.q z0 0 rfl) ?_
              have zz13 := hWF.r z0 0 rfl
              refine g_iload_n C dX11_tell_106 rfl 3 rfl ?_
              refine g_iload_n C dX11_tell_107 rfl 4 rfl ?_
              refine g_iast C dX11_tell_108 zz13 hw.1 ?_
              have hw := hw.2
              refine g_iload_n C dX11_tell_109 rfl 3 rfl ?_
              refine g_iconst (v := (2 : Int32)) C dX11_tell_110 (by decide) ?_
              refine g_icmp_ge (tgt := 118) C dX11_tell_111 (by decide) (fun c14 => ?_) (fun c14 => ?_)
              · have hw := hw.1 c14
                refine g_iload_n C dX11_tell_118 rfl 3 rfl ?_
                refine g_if_ne (tgt := 126) C dX11_tell_119 (by decide) (fun c15 => ?_) (fun c15 => ?_)
                · have hw := hw.1 c15
                  refine g_iload C dX11_tell_126 0 rfl ?_
                  exact g_iret C dX11_tell_128 hr ⟨hw, rfl, rfl, hWF⟩
                · have hw := hw.2 c15
                  refine g_aload_n C dX11_tell_122 rfl 2 rfl ?_
                  refine g_callVv (As := []) C dX11_tell_123 ft_387 z0 ft_467 ft_468 (met_X11_laysPath l hWF z0 hw) ⟨rfl, rfl, Nat.le_of_ble_eq_true rfl, Nat.le_of_ble_eq_true rfl⟩ ⟨Nat.zero_le _, Nat.zero_le _⟩ rfl rfl (Nat.le_of_ble_eq_true rfl) (fun I16 J16 Q16 hp => ?_)
                  obtain ⟨hw, eJ, eQ, hWF⟩ := hp
                  have eJ : J = J16 := Eq.symm eJ
                  subst eJ
                  have eQ : Q = Q16 := Eq.symm eQ
                  subst eQ
                  try dsimp only at hw hWF
                  refine g_iload C dX11_tell_126 0 rfl ?_
                  exact g_iret C dX11_tell_128 hr ⟨hw, rfl, rfl, hWF⟩
              · have hw := hw.2 c14
                refine g_aload_n C dX11_tell_114 rfl 2 rfl ?_
                refine g_callVv (As := []) C dX11_tell_115 ft_387 z0 ft_469 ft_470 (met_X11_forgets l hWF z0 hw) ⟨rfl, rfl, Nat.le_of_ble_eq_true rfl, Nat.le_of_ble_eq_true rfl⟩ ⟨Nat.zero_le _, Nat.zero_le _⟩ rfl rfl (Nat.le_of_ble_eq_true rfl) (fun I17 J17 Q17 hp => ?_)
                obtain ⟨hw, eJ, eQ, hWF⟩ := hp
                have eJ : J = J17 := Eq.symm eJ
                subst eJ
                have eQ : Q = Q17 := Eq.symm eQ
                subst eQ
                try dsimp only at hw hWF
                refine g_iload_n C dX11_tell_118 rfl 3 rfl ?_
                refine g_if_ne (tgt := 126) C dX11_tell_119 (by decide) (fun c18 => ?_) (fun c18 => ?_)
                · have hw := hw.1 c18
                  refine g_iload C dX11_tell_126 0 rfl ?_
                  exact g_iret C dX11_tell_128 hr ⟨hw, rfl, rfl, hWF⟩
                · have hw := hw.2 c18
                  refine g_aload_n C dX11_tell_122 rfl 2 rfl ?_
                  refine g_callVv (As := []) C dX11_tell_123 ft_387 z0 ft_467 ft_468 (met_X11_laysPath l hWF z0 hw) ⟨rfl, rfl, Nat.le_of_ble_eq_true rfl, Nat.le_of_ble_eq_true rfl⟩ ⟨Nat.zero_le _, Nat.zero_le _⟩ rfl rfl (Nat.le_of_ble_eq_true rfl) (fun I19 J19 Q19 hp => ?_)
                  obtain ⟨hw, eJ, eQ, hWF⟩ := hp
                  have eJ : J = J19 := Eq.symm eJ
                  subst eJ
                  have eQ : Q = Q19 := Eq.symm eQ
                  subst eQ
                  try dsimp only at hw hWF
                  refine g_iload C dX11_tell_126 0 rfl ?_
                  exact g_iret C dX11_tell_128 hr ⟨hw, rfl, rfl, hWF⟩
            · have hw := hw.2 c11
              refine g_bipush (v := (-2 : Int32)) C dX11_tell_95 (by decide) ?_
              exact g_iret C dX11_tell_97 hr ⟨hw, rfl, rfl, hWF⟩
      · have hw := hw.2 c3
        refine g_iload_n C dX11_tell_40 rfl 2 rfl ?_
        refine g_i2l C dX11_tell_41 ?_
        refine g_lconst (v := (0 : Int64)) C dX11_tell_42 (by decide) ?_
        refine g_ldc2 C dX11_tell_43 ft_471 ?_
        refine g_callSi (As := [.long (x2.toInt64), .long (0 : Int64), .long (3 : Int64)]) C dX11_tell_46 ft_397 ft_398 (met_X11_in l hWF  hw) ⟨rfl, rfl, Nat.le_of_ble_eq_true rfl, Nat.le_of_ble_eq_true rfl⟩ ⟨Nat.zero_le _, Nat.zero_le _⟩ rfl rfl (Nat.le_of_ble_eq_true rfl) (fun r20 I20 J20 Q20 hp => ?_)
        obtain ⟨hw, eI, eJ, eQ, hWF⟩ := hp
        have eI : I = I20 := Eq.symm eI
        subst eI
        have eJ : J = J20 := Eq.symm eJ
        subst eJ
        have eQ : Q = Q20 := Eq.symm eQ
        subst eQ
        try dsimp only at hw hWF
        refine g_goto C dX11_tell_49 (tgt := 74) (by decide) ?_
        refine g_istore_n (lv' := [(3, .int r20), (0, .ref (ad h0)), (1, .int x1), (2, .int x2)]) C dX11_tell_74 rfl (by decide) rfl ?_
        refine g_iload_n C dX11_tell_75 rfl 0 rfl ?_
        refine g_if_ne (tgt := 81) C dX11_tell_76 (by decide) (fun c21 => ?_) (fun c21 => ?_)
        · have hw := hw.1 c21
          refine g_aload_n C dX11_tell_81 rfl 1 rfl ?_
          refine g_getQ C dX11_tell_82 ft_363 z0 (hWF.q z0 0 rfl) ?_
          have zz22 := hWF.r z0 0 rfl
          refine g_iload_n C dX11_tell_85 rfl 2 rfl ?_
          refine g_iald C dX11_tell_86 zz22 hw.1 ?_
          have hw := hw.2
          refine g_istore (lv' := [(4, .int (I (rq Q h0 0) x1.toNatClampNeg)), (3, .int r20), (0, .ref (ad h0)), (1, .int x1), (2, .int x2)]) C dX11_tell_87 (by decide) rfl ?_
          refine g_iload C dX11_tell_89 0 rfl ?_
          refine g_iload_n C dX11_tell_91 rfl 4 rfl ?_
          refine g_icmp_ne (tgt := 98) C dX11_tell_92 (by decide) (fun c23 => ?_) (fun c23 => ?_)
          · have hw := hw.1 c23
            refine g_aload_n C dX11_tell_98 rfl 2 rfl ?_
            refine g_callVv (As := []) C dX11_tell_99 ft_387 z0 ft_430 ft_431 (met_X11_remembers l hWF z0 hw) ⟨rfl, rfl, Nat.le_of_ble_eq_true rfl, Nat.le_of_ble_eq_true rfl⟩ ⟨Nat.zero_le _, Nat.zero_le _⟩ rfl rfl (Nat.le_of_ble_eq_true rfl) (fun I24 J24 Q24 hp => ?_)
            obtain ⟨hw, eJ, eQ, hWF⟩ := hp
            have eJ : J = J24 := Eq.symm eJ
            subst eJ
            have eQ : Q = Q24 := Eq.symm eQ
            subst eQ
            try dsimp only at hw hWF
            refine g_aload_n C dX11_tell_102 rfl 2 rfl ?_
            refine g_getQ C dX11_tell_103 ft_363 z0 (hWF.q z0 0 rfl) ?_
            have zz25 := hWF.r z0 0 rfl
            refine g_iload_n C dX11_tell_106 rfl 3 rfl ?_
            refine g_iload_n C dX11_tell_107 rfl 4 rfl ?_
            refine g_iast C dX11_tell_108 zz25 hw.1 ?_
            have hw := hw.2
            refine g_iload_n C dX11_tell_109 rfl 3 rfl ?_
            refine g_iconst (v := (2 : Int32)) C dX11_tell_110 (by decide) ?_
            refine g_icmp_ge (tgt := 118) C dX11_tell_111 (by decide) (fun c26 => ?_) (fun c26 => ?_)
            · have hw := hw.1 c26
              refine g_iload_n C dX11_tell_118 rfl 3 rfl ?_
              refine g_if_ne (tgt := 126) C dX11_tell_119 (by decide) (fun c27 => ?_) (fun c27 => ?_)
              · have hw := hw.1 c27
                refine g_iload C dX11_tell_126 0 rfl ?_
                exact g_iret C dX11_tell_128 hr ⟨hw, rfl, rfl, hWF⟩
              · have hw := hw.2 c27
                refine g_aload_n C dX11_tell_122 rfl 2 rfl ?_
                refine g_callVv (As := []) C dX11_tell_123 ft_387 z0 ft_467 ft_468 (met_X11_laysPath l hWF z0 hw) ⟨rfl, rfl, Nat.le_of_ble_eq_true rfl, Nat.le_of_ble_eq_true rfl⟩ ⟨Nat.zero_le _, Nat.zero_le _⟩ rfl rfl (Nat.le_of_ble_eq_true rfl) (fun I28 J28 Q28 hp => ?_)
                obtain ⟨hw, eJ, eQ, hWF⟩ := hp
                have eJ : J = J28 := Eq.symm eJ
                subst eJ
                have eQ : Q = Q28 := Eq.symm eQ
                subst eQ
                try dsimp only at hw hWF
                refine g_iload C dX11_tell_126 0 rfl ?_
                exact g_iret C dX11_tell_128 hr ⟨hw, rfl, rfl, hWF⟩
            · have hw := hw.2 c26
              refine g_aload_n C dX11_tell_114 rfl 2 rfl ?_
              refine g_callVv (As := []) C dX11_tell_115 ft_387 z0 ft_469 ft_470 (met_X11_forgets l hWF z0 hw) ⟨rfl, rfl, Nat.le_of_ble_eq_true rfl, Nat.le_of_ble_eq_true rfl⟩ ⟨Nat.zero_le _, Nat.zero_le _⟩ rfl rfl (Nat.le_of_ble_eq_true rfl) (fun I29 J29 Q29 hp => ?_)
              obtain ⟨hw, eJ, eQ, hWF⟩ := hp
              have eJ : J = J29 := Eq.symm eJ
              subst eJ
              have eQ : Q = Q29 := Eq.symm eQ
              subst eQ
              try dsimp only at hw hWF
              refine g_iload_n C dX11_tell_118 rfl 3 rfl ?_
              refine g_if_ne (tgt := 126) C dX11_tell_119 (by decide) (fun c30 => ?_) (fun c30 => ?_)
              · have hw := hw.1 c30
                refine g_iload C dX11_tell_126 0 rfl ?_
                exact g_iret C dX11_tell_128 hr ⟨hw, rfl, rfl, hWF⟩
              · have hw := hw.2 c30
                refine g_aload_n C dX11_tell_122 rfl 2 rfl ?_
                refine g_callVv (As := []) C dX11_tell_123 ft_387 z0 ft_467 ft_468 (met_X11_laysPath l hWF z0 hw) ⟨rfl, rfl, Nat.le_of_ble_eq_true rfl, Nat.le_of_ble_eq_true rfl⟩ ⟨Nat.zero_le _, Nat.zero_le _⟩ rfl rfl (Nat.le_of_ble_eq_true rfl) (fun I31 J31 Q31 hp => ?_)
                obtain ⟨hw, eJ, eQ, hWF⟩ := hp
                have eJ : J = J31 := Eq.symm eJ
                subst eJ
                have eQ : Q = Q31 := Eq.symm eQ
                subst eQ
                try dsimp only at hw hWF
                refine g_iload C dX11_tell_126 0 rfl ?_
                exact g_iret C dX11_tell_128 hr ⟨hw, rfl, rfl, hWF⟩
          · have hw := hw.2 c23
            refine g_bipush (v := (-2 : Int32)) C dX11_tell_95 (by decide) ?_
            exact g_iret C dX11_tell_97 hr ⟨hw, rfl, rfl, hWF⟩
        · have hw := hw.2 c21
          refine g_iconst (v := (-1 : Int32)) C dX11_tell_79 (by decide) ?_
          exact g_iret C dX11_tell_80 hr ⟨hw, rfl, rfl, hWF⟩
    · have hw := hw.2 c2
      refine g_iload_n C dX11_tell_23 rfl 2 rfl ?_
      refine g_i2l C dX11_tell_24 ?_
      refine g_lconst (v := (1 : Int64)) C dX11_tell_25 (by decide) ?_
      refine g_ldc2 C dX11_tell_26 ft_472 ?_
      refine g_callSi (As := [.long (x2.toInt64), .long (1 : Int64), .long (8 : Int64)]) C dX11_tell_29 ft_397 ft_398 (met_X11_in l hWF  hw) ⟨rfl, rfl, Nat.le_of_ble_eq_true rfl, Nat.le_of_ble_eq_true rfl⟩ ⟨Nat.zero_le _, Nat.zero_le _⟩ rfl rfl (Nat.le_of_ble_eq_true rfl) (fun r32 I32 J32 Q32 hp => ?_)
      obtain ⟨hw, eI, eJ, eQ, hWF⟩ := hp
      have eI : I = I32 := Eq.symm eI
      subst eI
      have eJ : J = J32 := Eq.symm eJ
      subst eJ
      have eQ : Q = Q32 := Eq.symm eQ
      subst eQ
      try dsimp only at hw hWF
      refine g_goto C dX11_tell_32 (tgt := 74) (by decide) ?_
      refine g_istore_n (lv' := [(3, .int r32), (0, .ref (ad h0)), (1, .int x1), (2, .int x2)]) C dX11_tell_74 rfl (by decide) rfl ?_
      refine g_iload_n C dX11_tell_75 rfl 0 rfl ?_
      refine g_if_ne (tgt := 81) C dX11_tell_76 (by decide) (fun c33 => ?_) (fun c33 => ?_)
      · have hw := hw.1 c33
        refine g_aload_n C dX11_tell_81 rfl 1 rfl ?_
        refine g_getQ C dX11_tell_82 ft_363 z0 (hWF.q z0 0 rfl) ?_
        have zz34 := hWF.r z0 0 rfl
        refine g_iload_n C dX11_tell_85 rfl 2 rfl ?_
        refine g_iald C dX11_tell_86 zz34 hw.1 ?_
        have hw := hw.2
        refine g_istore (lv' := [(4, .int (I (rq Q h0 0) x1.toNatClampNeg)), (3, .int r32), (0, .ref (ad h0)), (1, .int x1), (2, .int x2)]) C dX11_tell_87 (by decide) rfl ?_
        refine g_iload C dX11_tell_89 0 rfl ?_
        refine g_iload_n C dX11_tell_91 rfl 4 rfl ?_
        refine g_icmp_ne (tgt := 98) C dX11_tell_92 (by decide) (fun c35 => ?_) (fun c35 => ?_)
        · have hw := hw.1 c35
          refine g_aload_n C dX11_tell_98 rfl 2 rfl ?_
          refine g_callVv (As := []) C dX11_tell_99 ft_387 z0 ft_430 ft_431 (met_X11_remembers l hWF z0 hw) ⟨rfl, rfl, Nat.le_of_ble_eq_true rfl, Nat.le_of_ble_eq_true rfl⟩ ⟨Nat.zero_le _, Nat.zero_le _⟩ rfl rfl (Nat.le_of_ble_eq_true rfl) (fun I36 J36 Q36 hp => ?_)
          obtain ⟨hw, eJ, eQ, hWF⟩ := hp
          have eJ : J = J36 := Eq.symm eJ
          subst eJ
          have eQ : Q = Q36 := Eq.symm eQ
          subst eQ
          try dsimp only at hw hWF
          refine g_aload_n C dX11_tell_102 rfl 2 rfl ?_
          refine g_getQ C dX11_tell_103 ft_363 z0 (hWF.q z0 0 rfl) ?_
          have zz37 := hWF.r z0 0 rfl
          refine g_iload_n C dX11_tell_106 rfl 3 rfl ?_
          refine g_iload_n C dX11_tell_107 rfl 4 rfl ?_
          refine g_iast C dX11_tell_108 zz37 hw.1 ?_
          have hw := hw.2
          refine g_iload_n C dX11_tell_109 rfl 3 rfl ?_
          refine g_iconst (v := (2 : Int32)) C dX11_tell_110 (by decide) ?_
          refine g_icmp_ge (tgt := 118) C dX11_tell_111 (by decide) (fun c38 => ?_) (fun c38 => ?_)
          · have hw := hw.1 c38
            refine g_iload_n C dX11_tell_118 rfl 3 rfl ?_
            refine g_if_ne (tgt := 126) C dX11_tell_119 (by decide) (fun c39 => ?_) (fun c39 => ?_)
            · have hw := hw.1 c39
              refine g_iload C dX11_tell_126 0 rfl ?_
              exact g_iret C dX11_tell_128 hr ⟨hw, rfl, rfl, hWF⟩
            · have hw := hw.2 c39
              refine g_aload_n C dX11_tell_122 rfl 2 rfl ?_
              refine g_callVv (As := []) C dX11_tell_123 ft_387 z0 ft_467 ft_468 (met_X11_laysPath l hWF z0 hw) ⟨rfl, rfl, Nat.le_of_ble_eq_true rfl, Nat.le_of_ble_eq_true rfl⟩ ⟨Nat.zero_le _, Nat.zero_le _⟩ rfl rfl (Nat.le_of_ble_eq_true rfl) (fun I40 J40 Q40 hp => ?_)
              obtain ⟨hw, eJ, eQ, hWF⟩ := hp
              have eJ : J = J40 := Eq.symm eJ
              subst eJ
              have eQ : Q = Q40 := Eq.symm eQ
              subst eQ
              try dsimp only at hw hWF
              refine g_iload C dX11_tell_126 0 rfl ?_
              exact g_iret C dX11_tell_128 hr ⟨hw, rfl, rfl, hWF⟩
          · have hw := hw.2 c38
            refine g_aload_n C dX11_tell_114 rfl 2 rfl ?_
            refine g_callVv (As := []) C dX11_tell_115 ft_387 z0 ft_469 ft_470 (met_X11_forgets l hWF z0 hw) ⟨rfl, rfl, Nat.le_of_ble_eq_true rfl, Nat.le_of_ble_eq_true rfl⟩ ⟨Nat.zero_le _, Nat.zero_le _⟩ rfl rfl (Nat.le_of_ble_eq_true rfl) (fun I41 J41 Q41 hp => ?_)
            obtain ⟨hw, eJ, eQ, hWF⟩ := hp
            have eJ : J = J41 := Eq.symm eJ
            subst eJ
            have eQ : Q = Q41 := Eq.symm eQ
            subst eQ
            try dsimp only at hw hWF
            refine g_iload_n C dX11_tell_118 rfl 3 rfl ?_
            refine g_if_ne (tgt := 126) C dX11_tell_119 (by decide) (fun c42 => ?_) (fun c42 => ?_)
            · have hw := hw.1 c42
              refine g_iload C dX11_tell_126 0 rfl ?_
              exact g_iret C dX11_tell_128 hr ⟨hw, rfl, rfl, hWF⟩
            · have hw := hw.2 c42
              refine g_aload_n C dX11_tell_122 rfl 2 rfl ?_
              refine g_callVv (As := []) C dX11_tell_123 ft_387 z0 ft_467 ft_468 (met_X11_laysPath l hWF z0 hw) ⟨rfl, rfl, Nat.le_of_ble_eq_true rfl, Nat.le_of_ble_eq_true rfl⟩ ⟨Nat.zero_le _, Nat.zero_le _⟩ rfl rfl (Nat.le_of_ble_eq_true rfl) (fun I43 J43 Q43 hp => ?_)
              obtain ⟨hw, eJ, eQ, hWF⟩ := hp
              have eJ : J = J43 := Eq.symm eJ
              subst eJ
              have eQ : Q = Q43 := Eq.symm eQ
              subst eQ
              try dsimp only at hw hWF
              refine g_iload C dX11_tell_126 0 rfl ?_
              exact g_iret C dX11_tell_128 hr ⟨hw, rfl, rfl, hWF⟩
        · have hw := hw.2 c35
          refine g_bipush (v := (-2 : Int32)) C dX11_tell_95 (by decide) ?_
          exact g_iret C dX11_tell_97 hr ⟨hw, rfl, rfl, hWF⟩
      · have hw := hw.2 c33
        refine g_iconst (v := (-1 : Int32)) C dX11_tell_79 (by decide) ?_
        exact g_iret C dX11_tell_80 hr ⟨hw, rfl, rfl, hWF⟩
  · have hw := hw.2 c1
    refine g_iload_n C dX11_tell_4 rfl 2 rfl ?_
    refine g_i2l C dX11_tell_5 ?_
    refine g_ldc2 C dX11_tell_6 ft_448 ?_
    refine g_ldc2 C dX11_tell_9 ft_473 ?_
    refine g_callSi (As := [.long (x2.toInt64), .long (2 : Int64), .long (6 : Int64)]) C dX11_tell_12 ft_397 ft_398 (met_X11_in l hWF  hw) ⟨rfl, rfl, Nat.le_of_ble_eq_true rfl, Nat.le_of_ble_eq_true rfl⟩ ⟨Nat.zero_le _, Nat.zero_le _⟩ rfl rfl (Nat.le_of_ble_eq_true rfl) (fun r44 I44 J44 Q44 hp => ?_)
    obtain ⟨hw, eI, eJ, eQ, hWF⟩ := hp
    have eI : I = I44 := Eq.symm eI
    subst eI
    have eJ : J = J44 := Eq.symm eJ
    subst eJ
    have eQ : Q = Q44 := Eq.symm eQ
    subst eQ
    try dsimp only at hw hWF
    refine g_goto C dX11_tell_15 (tgt := 74) (by decide) ?_
    refine g_istore_n (lv' := [(3, .int r44), (0, .ref (ad h0)), (1, .int x1), (2, .int x2)]) C dX11_tell_74 rfl (by decide) rfl ?_
    refine g_iload_n C dX11_tell_75 rfl 0 rfl ?_
    refine g_if_ne (tgt := 81) C dX11_tell_76 (by decide) (fun c45 => ?_) (fun c45 => ?_)
    · have hw := hw.1 c45
      refine g_aload_n C dX11_tell_81 rfl 1 rfl ?_
      refine g_getQ C dX11_tell_82 ft_363 z0 (hWF.q z0 0 rfl) ?_
      have zz46 := hWF.r z0 0 rfl
      refine g_iload_n C dX11_tell_85 rfl 2 rfl ?_
      refine g_iald C dX11_tell_86 zz46 hw.1 ?_
      have hw := hw.2
      refine g_istore (lv' := [(4, .int (I (rq Q h0 0) x1.toNatClampNeg)), (3, .int r44), (0, .ref (ad h0)), (1, .int x1), (2, .int x2)]) C dX11_tell_87 (by decide) rfl ?_
      refine g_iload C dX11_tell_89 0 rfl ?_
      refine g_iload_n C dX11_tell_91 rfl 4 rfl ?_
      refine g_icmp_ne (tgt := 98) C dX11_tell_92 (by decide) (fun c47 => ?_) (fun c47 => ?_)
      · have hw := hw.1 c47
        refine g_aload_n C dX11_tell_98 rfl 2 rfl ?_
        refine g_callVv (As := []) C dX11_tell_99 ft_387 z0 ft_430 ft_431 (met_X11_remembers l hWF z0 hw) ⟨rfl, rfl, Nat.le_of_ble_eq_true rfl, Nat.le_of_ble_eq_true rfl⟩ ⟨Nat.zero_le _, Nat.zero_le _⟩ rfl rfl (Nat.le_of_ble_eq_true rfl) (fun I48 J48 Q48 hp => ?_)
        obtain ⟨hw, eJ, eQ, hWF⟩ := hp
        have eJ : J = J48 := Eq.symm eJ
        subst eJ
        have eQ : Q = Q48 := Eq.symm eQ
        subst eQ
        try dsimp only at hw hWF
        refine g_aload_n C dX11_tell_102 rfl 2 rfl ?_
        refine g_getQ C dX11_tell_103 ft_363 z0 (hWF.q z0 0 rfl) ?_
        have zz49 := hWF.r z0 0 rfl
        refine g_iload_n C dX11_tell_106 rfl 3 rfl ?_
        refine g_iload_n C dX11_tell_107 rfl 4 rfl ?_
        refine g_iast C dX11_tell_108 zz49 hw.1 ?_
        have hw := hw.2
        refine g_iload_n C dX11_tell_109 rfl 3 rfl ?_
        refine g_iconst (v := (2 : Int32)) C dX11_tell_110 (by decide) ?_
        refine g_icmp_ge (tgt := 118) C dX11_tell_111 (by decide) (fun c50 => ?_) (fun c50 => ?_)
        · have hw := hw.1 c50
          refine g_iload_n C dX11_tell_118 rfl 3 rfl ?_
          refine g_if_ne (tgt := 126) C dX11_tell_119 (by decide) (fun c51 => ?_) (fun c51 => ?_)
          · have hw := hw.1 c51
            refine g_iload C dX11_tell_126 0 rfl ?_
            exact g_iret C dX11_tell_128 hr ⟨hw, rfl, rfl, hWF⟩
          · have hw := hw.2 c51
            refine g_aload_n C dX11_tell_122 rfl 2 rfl ?_
            refine g_callVv (As := []) C dX11_tell_123 ft_387 z0 ft_467 ft_468 (met_X11_laysPath l hWF z0 hw) ⟨rfl, rfl, Nat.le_of_ble_eq_true rfl, Nat.le_of_ble_eq_true rfl⟩ ⟨Nat.zero_le _, Nat.zero_le _⟩ rfl rfl (Nat.le_of_ble_eq_true rfl) (fun I52 J52 Q52 hp => ?_)
            obtain ⟨hw, eJ, eQ, hWF⟩ := hp
            have eJ : J = J52 := Eq.symm eJ
            subst eJ
            have eQ : Q = Q52 := Eq.symm eQ
            subst eQ
            try dsimp only at hw hWF
            refine g_iload C dX11_tell_126 0 rfl ?_
            exact g_iret C dX11_tell_128 hr ⟨hw, rfl, rfl, hWF⟩
        · have hw := hw.2 c50
          refine g_aload_n C dX11_tell_114 rfl 2 rfl ?_
          refine g_callVv (As := []) C dX11_tell_115 ft_387 z0 ft_469 ft_470 (met_X11_forgets l hWF z0 hw) ⟨rfl, rfl, Nat.le_of_ble_eq_true rfl, Nat.le_of_ble_eq_true rfl⟩ ⟨Nat.zero_le _, Nat.zero_le _⟩ rfl rfl (Nat.le_of_ble_eq_true rfl) (fun I53 J53 Q53 hp => ?_)
          obtain ⟨hw, eJ, eQ, hWF⟩ := hp
          have eJ : J = J53 := Eq.symm eJ
          subst eJ
          have eQ : Q = Q53 := Eq.symm eQ
          subst eQ
          try dsimp only at hw hWF
          refine g_iload_n C dX11_tell_118 rfl 3 rfl ?_
          refine g_if_ne (tgt := 126) C dX11_tell_119 (by decide) (fun c54 => ?_) (fun c54 => ?_)
          · have hw := hw.1 c54
            refine g_iload C dX11_tell_126 0 rfl ?_
            exact g_iret C dX11_tell_128 hr ⟨hw, rfl, rfl, hWF⟩
          · have hw := hw.2 c54
            refine g_aload_n C dX11_tell_122 rfl 2 rfl ?_
            refine g_callVv (As := []) C dX11_tell_123 ft_387 z0 ft_467 ft_468 (met_X11_laysPath l hWF z0 hw) ⟨rfl, rfl, Nat.le_of_ble_eq_true rfl, Nat.le_of_ble_eq_true rfl⟩ ⟨Nat.zero_le _, Nat.zero_le _⟩ rfl rfl (Nat.le_of_ble_eq_true rfl) (fun I55 J55 Q55 hp => ?_)
            obtain ⟨hw, eJ, eQ, hWF⟩ := hp
            have eJ : J = J55 := Eq.symm eJ
            subst eJ
            have eQ : Q = Q55 := Eq.symm eQ
            subst eQ
            try dsimp only at hw hWF
            refine g_iload C dX11_tell_126 0 rfl ?_
            exact g_iret C dX11_tell_128 hr ⟨hw, rfl, rfl, hWF⟩
      · have hw := hw.2 c47
        refine g_bipush (v := (-2 : Int32)) C dX11_tell_95 (by decide) ?_
        exact g_iret C dX11_tell_97 hr ⟨hw, rfl, rfl, hWF⟩
    · have hw := hw.2 c45
      refine g_iconst (v := (-1 : Int32)) C dX11_tell_79 (by decide) ?_
      exact g_iret C dX11_tell_80 hr ⟨hw, rfl, rfl, hWF⟩
def wp_X11_type (I : KI) (Q : KQ) (h0 : Nat) (x1 : Int32) (post : Int32 → KI → Prop) : Prop := wp_X11_in (x1.toInt64) (32 : Int64) (126 : Int64) (fun r1 => ((¬ r1 = 0 → ((¬ (I h0 20) = (90 : Int32) → (vp_in (I h0 20) 90 ∧ post ((sti (sti I (rq Q h0 19) (I h0 20).toNatClampNeg x1) h0 20 (((sti I (rq Q h0 19) (I h0 20).toNatClampNeg x1) h0 20) + (1 : Int32))) h0 20) (sti (sti I (rq Q h0 19) (I h0 20).toNatClampNeg x1) h0 20 (((sti I (rq Q h0 19) (I h0 20).toNatClampNeg x1) h0 20) + (1 : Int32))))) ∧ ((I h0 20) = (90 : Int32) → post (-3 : Int32) I))) ∧ (r1 = 0 → post (-1 : Int32) I)))
set_option maxHeartbeats 4000000 in
set_option maxRecDepth 100000 in
theorem met_X11_type {Z : Nat → Prop} {A : Nat → Prop} {D : va_G} {D2 : Nat → ClassId} {ad : Nat → Nat} {N : Nat} {T : Nat → Nat × Nat} (l : Launch) {I : KI} {J : KJ} {Q : KQ} {h0 : Nat} {x1 : Int32} {post : Int32 → KI → Prop} (hWF : WF Z N T Q) (z0 : OKr Z N T h0 (11, 0)) (hw : wp_X11_type I Q h0 x1 post) : Met l yX11_type (.code yX11_type cX11_type 2 (some .int) :: BIG) ({ frames := 1, cells := 0, slots := 0, locals := 25 }) (Pr D D2 A ad N T I J Q [.ref (ad h0), .int x1]) (va_Qi (fun (r : Int32) (u : KS) => post r u.1 ∧ u.2.1 = J ∧ u.2.2 = Q ∧ WF Z N T u.2.2) (Bw D D2 ad N T) A) 0 0 A := by
  refine Met_GG (lv0 := [(0, .ref (ad h0)), (1, .int x1)]) (by decide +kernel) [.ref (ad h0), .int x1] (Nat.le_of_ble_eq_true rfl) rfl ?_
  intro p e s m below meth c C hr
  have C : CX p s m [.ref (ad h0), .int x1].toArray meth c cX11_type 2 RX11 A D D2 := C
  unfold wp_X11_type at hw
  refine g_iload_n C dX11_type_0 rfl 1 rfl ?_
  refine g_i2l C dX11_type_1 ?_
  refine g_ldc2 C dX11_type_2 ft_474 ?_
  refine g_ldc2 C dX11_type_5 ft_475 ?_
  refine g_callSi (As := [.long (x1.toInt64), .long (32 : Int64), .long (126 : Int64)]) C dX11_type_8 ft_397 ft_398 (met_X11_in l hWF  hw) ⟨rfl, rfl, Nat.le_of_ble_eq_true rfl, Nat.le_of_ble_eq_true rfl⟩ ⟨Nat.zero_le _, Nat.zero_le _⟩ rfl rfl (Nat.le_of_ble_eq_true rfl) (fun r1 I1 J1 Q1 hp => ?_)
  obtain ⟨hw, eI, eJ, eQ, hWF⟩ := hp
  have eI : I = I1 := Eq.symm eI
  subst eI
  have eJ : J = J1 := Eq.symm eJ
  subst eJ
  have eQ : Q = Q1 := Eq.symm eQ
  subst eQ
  try dsimp only at hw hWF
  refine g_if_ne (tgt := 16) C dX11_type_11 (by decide) (fun c2 => ?_) (fun c2 => ?_)
  · have hw := hw.1 c2
    refine g_aload_n C dX11_type_16 rfl 0 rfl ?_
    refine g_getI C dX11_type_17 ft_476 z0 ?_
    refine g_bipush (v := (90 : Int32)) C dX11_type_20 (by decide) ?_
    refine g_icmp_ne (tgt := 28) C dX11_type_22 (by decide) (fun c3 => ?_) (fun c3 => ?_)
    · have hw := hw.1 c3
      refine g_aload_n C dX11_type_28 rfl 0 rfl ?_
      refine g_getQ C dX11_type_29 ft_477 z0 (hWF.q z0 19 rfl) ?_
      have zz4 := hWF.r z0 19 rfl
      refine g_aload_n C dX11_type_32 rfl 0 rfl ?_
      refine g_getI C dX11_type_33 ft_476 z0 ?_
      refine g_iload_n C dX11_type_36 rfl 1 rfl ?_
      refine g_iast C dX11_type_37 zz4 hw.1 ?_
      have hw := hw.2
      refine g_aload_n C dX11_type_38 rfl 0 rfl ?_
      refine g_dup C dX11_type_39 rfl ?_
      refine g_getI C dX11_type_40 ft_476 z0 ?_
      refine g_iconst (v := (1 : Int32)) C dX11_type_43 (by decide) ?_
      refine g_iadd C dX11_type_44 ?_
      refine g_putI C dX11_type_45 ft_478 z0 ?_
      refine g_aload_n C dX11_type_48 rfl 0 rfl ?_
      refine g_getI C dX11_type_49 ft_476 z0 ?_
      exact g_iret C dX11_type_52 hr ⟨hw, rfl, rfl, hWF⟩
    · have hw := hw.2 c3
      refine g_bipush (v := (-3 : Int32)) C dX11_type_25 (by decide) ?_
      exact g_iret C dX11_type_27 hr ⟨hw, rfl, rfl, hWF⟩
  · have hw := hw.2 c2
    refine g_iconst (v := (-1 : Int32)) C dX11_type_14 (by decide) ?_
    exact g_iret C dX11_type_15 hr ⟨hw, rfl, rfl, hWF⟩
def wp_X11_here_L0 (Qf_1 : KQ) (f0_1 : Nat) (k38 : KI → Prop) : Nat → KI → Prop
  | 0, _ => False
  | n0 + 1, I_1 => (((I_1 f0_1 20) ≤ (I_1 f0_1 21) → k38 I_1) ∧ (¬ (I_1 f0_1 20) ≤ (I_1 f0_1 21) → (vp_in (I_1 f0_1 21) 90 ∧ ((¬ (I_1 (rq Qf_1 f0_1 19) (I_1 f0_1 21).toNatClampNeg) = (32 : Int32) → k38 I_1) ∧ ((I_1 (rq Qf_1 f0_1 19) (I_1 f0_1 21).toNatClampNeg) = (32 : Int32) → wp_X11_here_L0 Qf_1 f0_1 k38 n0 (sti I_1 f0_1 21 ((I_1 f0_1 21) + (1 : Int32))))))))
def wp_X11_here (I : KI) (Q : KQ) (h0 : Nat) (post : Int32 → KI → Prop) : Prop := (∃ q0, wp_X11_here_L0 Q h0 (fun I_6 => (((I_6 h0 20) ≤ (I_6 h0 21) → post (-1 : Int32) I_6) ∧ (¬ (I_6 h0 20) ≤ (I_6 h0 21) → (vp_in (I_6 h0 21) 90 ∧ post (I_6 (rq Q h0 19) (I_6 h0 21).toNatClampNeg) I_6)))) q0 I)
set_option maxHeartbeats 4000000 in
set_option maxRecDepth 100000 in
theorem met_X11_here {Z : Nat → Prop} {A : Nat → Prop} {D : va_G} {D2 : Nat → ClassId} {ad : Nat → Nat} {N : Nat} {T : Nat → Nat × Nat} (l : Launch) {I : KI} {J : KJ} {Q : KQ} {h0 : Nat} {post : Int32 → KI → Prop} (hWF : WF Z N T Q) (z0 : OKr Z N T h0 (11, 0)) (hw : wp_X11_here I Q h0 post) : Met l yX11_here (.code yX11_here cX11_here 1 (some .int) :: BIG) ({ frames := 0, cells := 0, slots := 0, locals := 0 }) (Pr D D2 A ad N T I J Q [.ref (ad h0)]) (va_Qi (fun (r : Int32) (u : KS) => post r u.1 ∧ u.2.1 = J ∧ u.2.2 = Q ∧ WF Z N T u.2.2) (Bw D D2 ad N T) A) 0 0 A := by
  refine Met_GG (lv0 := [(0, .ref (ad h0))]) (by decide +kernel) [.ref (ad h0)] (Nat.le_of_ble_eq_true rfl) rfl ?_
  intro p e s m below meth c C hr
  have C : CX p s m [.ref (ad h0)].toArray meth c cX11_here 1 RX11 A D D2 := C
  unfold wp_X11_here at hw
  have K38_u5 : ∀ (I_6 : KI), ((((I_6 h0 20) ≤ (I_6 h0 21) → post (-1 : Int32) I_6) ∧ (¬ (I_6 h0 20) ≤ (I_6 h0 21) → (vp_in (I_6 h0 21) 90 ∧ post (I_6 (rq Q h0 19) (I_6 h0 21).toNatClampNeg) I_6)))) → WF Z N T Q → GG p l e ({ frames := 0, cells := 0, slots := 0, locals := 0 }) s m [.ref (ad h0)].toArray below meth c 1 A D D2 0 0 (MQ below (va_Qi (fun (r : Int32) (u : KS) => post r u.1 ∧ u.2.1 = J ∧ u.2.2 = Q ∧ WF Z N T u.2.2) (Bw D D2 ad N T) A) [.ref (ad h0)].toArray s 0 0 A) ad N T I_6 J Q 38 [(0, .ref (ad h0))] [] := by
    intro I_6 hw hWF
    refine g_aload_n C dX11_here_38 rfl 0 rfl ?_
    refine g_getI C dX11_here_39 ft_479 z0 ?_
    refine g_aload_n C dX11_here_42 rfl 0 rfl ?_
    refine g_getI C dX11_here_43 ft_476 z0 ?_
    refine g_icmp_ge (tgt := 61) C dX11_here_46 (by decide) (fun c7 => ?_) (fun c7 => ?_)
    · have hw := hw.1 c7
      refine g_iconst (v := (-1 : Int32)) C dX11_here_61 (by decide) ?_
      exact g_iret C dX11_here_62 hr ⟨hw, rfl, rfl, hWF⟩
    · have hw := hw.2 c7
      refine g_aload_n C dX11_here_49 rfl 0 rfl ?_
      refine g_getQ C dX11_here_50 ft_477 z0 (hWF.q z0 19 rfl) ?_
      have zz8 := hWF.r z0 19 rfl
      refine g_aload_n C dX11_here_53 rfl 0 rfl ?_
      refine g_getI C dX11_here_54 ft_479 z0 ?_
      refine g_iald C dX11_here_57 zz8 hw.1 ?_
      have hw := hw.2
      refine g_goto C dX11_here_58 (tgt := 62) (by decide) ?_
      exact g_iret C dX11_here_62 hr ⟨hw, rfl, rfl, hWF⟩
  have L0_u5 : ∀ (n0 : Nat) (I_1 : KI), wp_X11_here_L0 Q h0 (fun I_6 => (((I_6 h0 20) ≤ (I_6 h0 21) → post (-1 : Int32) I_6) ∧ (¬ (I_6 h0 20) ≤ (I_6 h0 21) → (vp_in (I_6 h0 21) 90 ∧ post (I_6 (rq Q h0 19) (I_6 h0 21).toNatClampNeg) I_6)))) n0 I_1 → WF Z N T Q → GG p l e ({ frames := 0, cells := 0, slots := 0, locals := 0 }) s m [.ref (ad h0)].toArray below meth c 1 A D D2 0 0 (MQ below (va_Qi (fun (r : Int32) (u : KS) => post r u.1 ∧ u.2.1 = J ∧ u.2.2 = Q ∧ WF Z N T u.2.2) (Bw D D2 ad N T) A) [.ref (ad h0)].toArray s 0 0 A) ad N T I_1 J Q 0 [(0, .ref (ad h0))] [] := by
    intro n0
    induction n0 with
    | zero => intro I_1 hw; exact hw.elim
    | succ n0 ih_u5 =>
      intro I_1 hw hWF
      unfold wp_X11_here_L0 at hw
      refine g_aload_n C dX11_here_0 rfl 0 rfl ?_
      refine g_getI C dX11_here_1 ft_479 z0 ?_
      refine g_aload_n C dX11_here_4 rfl 0 rfl ?_
      refine g_getI C dX11_here_5 ft_476 z0 ?_
      refine g_icmp_ge (tgt := 38) C dX11_here_8 (by decide) (fun c10 => ?_) (fun c10 => ?_)
      · have hw := hw.1 c10
        exact K38_u5 I_1 hw hWF
      · have hw := hw.2 c10
        refine g_aload_n C dX11_here_11 rfl 0 rfl ?_
        refine g_getQ C dX11_here_12 ft_477 z0 (hWF.q z0 19 rfl) ?_
        have zz11 := hWF.r z0 19 rfl
        refine g_aload_n C dX11_here_15 rfl 0 rfl ?_
        refine g_getI C dX11_here_16 ft_479 z0 ?_
        refine g_iald C dX11_here_19 zz11 hw.1 ?_
        have hw := hw.2
        refine g_bipush (v := (32 : Int32)) C dX11_here_20 (by decide) ?_
        refine g_icmp_ne (tgt := 38) C dX11_here_22 (by decide) (fun c12 => ?_) (fun c12 => ?_)
        · have hw := hw.1 c12
          exact K38_u5 I_1 hw hWF
        · have hw := hw.2 c12
          refine g_aload_n C dX11_here_25 rfl 0 rfl ?_
          refine g_dup C dX11_here_26 rfl ?_
          refine g_getI C dX11_here_27 ft_479 z0 ?_
          refine g_iconst (v := (1 : Int32)) C dX11_here_30 (by decide) ?_
          refine g_iadd C dX11_here_31 ?_
          refine g_putI C dX11_here_32 ft_480 z0 ?_
          refine g_goto C dX11_here_35 (tgt := 0) (by decide) ?_
          exact ih_u5 (sti I_1 h0 21 ((I_1 h0 21) + (1 : Int32))) hw hWF
  obtain ⟨n_u5, hw⟩ := hw
  exact L0_u5 n_u5 I hw hWF
