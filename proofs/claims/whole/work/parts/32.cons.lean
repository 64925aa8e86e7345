def wp_X0_init (I : KI) (J : KJ) (Q : KQ) (T : Nat → Nat × Nat) (N h0 : Nat) (post : KI → KJ → KQ → Prop) : Prop := (T N = (20, 384) ∧ (T (N + 1) = (20, 6) ∧ (T (N + 2) = (20, 6) ∧ post (upk (upk (upk I N zI) (N + 1) zI) (N + 2) zI) (upk (upk (upk J N zJ) (N + 1) zJ) (N + 2) zJ) (stq (upk (stq (upk (stq (upk Q N zQ) h0 0 N) (N + 1) zQ) h0 1 (N + 1)) (N + 2) zQ) h0 2 (N + 2)))))
set_option maxHeartbeats 4000000 in
set_option maxRecDepth 100000 in
theorem met_X0_init {A : Nat → Prop} {D : va_G} {D2 : Nat → ClassId} {ad : Nat → Nat} {base N : Nat} {T : Nat → Nat × Nat} (l : Launch) {I : KI} {J : KJ} {Q : KQ} {h0 : Nat} {post : KI → KJ → KQ → Prop} (hAd : ∀ k, ad k = base + k) (z0 : OKr (fun _ => True) N T h0 (0, 0)) (hw : wp_X0_init I J Q T N h0 post) : Met l yX0_init (.code yX0_init cX0_init 1 none :: BIG) ({ frames := 1, cells := 3, slots := 396, locals := 24 }) (PrC D D2 A ad base N T I J Q [.ref (ad h0)]) (va_Qv (fun (u : KS) => post u.1 u.2.1 u.2.2) (BwC D D2 ad (N + 3) T A) A) 3 396 A := by
  refine Met_GC (lv0 := [(0, .ref (ad h0))]) (by decide +kernel) rfl [.ref (ad h0)] (Nat.le_of_ble_eq_true rfl) rfl ?_
  intro p e s m below meth c C hr hin2 hCe
  have C : CX p s m [.ref (ad h0)].toArray meth c cX0_init 1 RX0 A D D2 := C
  unfold wp_X0_init at hw
  refine g_aload_n C dX0_init_0 rfl 0 rfl ?_
  refine g_objInit C dX0_init_1 ft_517 (by decide) (by decide) ?_
  refine g_aload_n C dX0_init_4 rfl 0 rfl ?_
  refine g_sipush (v := (384 : Int32)) C dX0_init_5 (by decide) ?_
  refine g_newa C 0 (ty := .int) dX0_init_8 rfl ft_518 rfl hw.1 (fun _ => rfl) (by decide) (fun _ h => h) (by decide) rfl (by decide) hAd (by omega) (by omega) (by decide) (by decide) ?_
  have zz1 : OKr (fun _ => True) (N + 1) T N (20, 384) := ⟨trivial, by omega, hw.1⟩
  have hw := hw.2
  refine g_putQ C dX0_init_10 hin2 ft_519 ⟨rfl, rfl⟩ (okr_up z0 (by omega)) ?_
  refine g_aload_n C dX0_init_13 rfl 0 rfl ?_
  refine g_bipush (v := (6 : Int32)) C dX0_init_14 (by decide) ?_
  refine g_newa C 0 (ty := .int) dX0_init_16 rfl ft_518 rfl hw.1 (fun _ => rfl) (by decide) (fun _ h => h) (by decide) rfl (by decide) hAd (by omega) (by omega) (by decide) (by decide) ?_
  have zz2 : OKr (fun _ => True) (N + 2) T (N + 1) (20, 6) := ⟨trivial, by omega, hw.1⟩
  have hw := hw.2
  refine g_putQ C dX0_init_18 hin2 ft_520 ⟨rfl, rfl⟩ (okr_up z0 (by omega)) ?_
  refine g_aload_n C dX0_init_21 rfl 0 rfl ?_
  refine g_bipush (v := (6 : Int32)) C dX0_init_22 (by decide) ?_
  refine g_newa C 0 (ty := .int) dX0_init_24 rfl ft_518 rfl hw.1 (fun _ => rfl) (by decide) (fun _ h => h) (by decide) rfl (by decide) hAd (by omega) (by omega) (by decide) (by decide) ?_
  have zz3 : OKr (fun _ => True) (N + 3) T (N + 2) (20, 6) := ⟨trivial, by omega, hw.1⟩
  have hw := hw.2
  refine g_putQ C dX0_init_26 hin2 ft_521 ⟨rfl, rfl⟩ (okr_up z0 (by omega)) ?_
  exact g_cret C dX0_init_29 hr hw rfl rfl rfl
def wp_X4_init (I : KI) (J : KJ) (Q : KQ) (T : Nat → Nat × Nat) (N h0 : Nat) (post : KI → KJ → KQ → Prop) : Prop := (T N = (20, 48) ∧ post (upk I N zI) (upk J N zJ) (stq (upk Q N zQ) h0 0 N))
set_option maxHeartbeats 4000000 in
set_option maxRecDepth 100000 in
theorem met_X4_init {A : Nat → Prop} {D : va_G} {D2 : Nat → ClassId} {ad : Nat → Nat} {base N : Nat} {T : Nat → Nat × Nat} (l : Launch) {I : KI} {J : KJ} {Q : KQ} {h0 : Nat} {post : KI → KJ → KQ → Prop} (hAd : ∀ k, ad k = base + k) (z0 : OKr (fun _ => True) N T h0 (4, 0)) (hw : wp_X4_init I J Q T N h0 post) : Met l yX4_init (.code yX4_init cX4_init 1 none :: BIG) ({ frames := 1, cells := 1, slots := 48, locals := 24 }) (PrC D D2 A ad base N T I J Q [.ref (ad h0)]) (va_Qv (fun (u : KS) => post u.1 u.2.1 u.2.2) (BwC D D2 ad (N + 1) T A) A) 1 48 A := by
  refine Met_GC (lv0 := [(0, .ref (ad h0))]) (by decide +kernel) rfl [.ref (ad h0)] (Nat.le_of_ble_eq_true rfl) rfl ?_
  intro p e s m below meth c C hr hin2 hCe
  have C : CX p s m [.ref (ad h0)].toArray meth c cX4_init 1 RX4 A D D2 := C
  unfold wp_X4_init at hw
  refine g_aload_n C dX4_init_0 rfl 0 rfl ?_
  refine g_objInit C dX4_init_1 ft_522 (by decide) (by decide) ?_
  refine g_aload_n C dX4_init_4 rfl 0 rfl ?_
  refine g_bipush (v := (48 : Int32)) C dX4_init_5 (by decide) ?_
  refine g_newa C 0 (ty := .int) dX4_init_7 rfl ft_518 rfl hw.1 (fun _ => rfl) (by decide) (fun _ h => h) (by decide) rfl (by decide) hAd (by omega) (by omega) (by decide) (by decide) ?_
  have zz1 : OKr (fun _ => True) (N + 1) T N (20, 48) := ⟨trivial, by omega, hw.1⟩
  have hw := hw.2
  refine g_putQ C dX4_init_9 hin2 ft_523 ⟨rfl, rfl⟩ (okr_up z0 (by omega)) ?_
  exact g_cret C dX4_init_12 hr hw rfl rfl rfl
def wp_X7_init (I : KI) (J : KJ) (Q : KQ) (T : Nat → Nat × Nat) (N h0 : Nat) (post : KI → KJ → KQ → Prop) : Prop := (T N = (20, 8) ∧ post (upk I N zI) (upk J N zJ) (stq (upk Q N zQ) h0 0 N))
set_option maxHeartbeats 4000000 in
set_option maxRecDepth 100000 in
theorem met_X7_init {A : Nat → Prop} {D : va_G} {D2 : Nat → ClassId} {ad : Nat → Nat} {base N : Nat} {T : Nat → Nat × Nat} (l : Launch) {I : KI} {J : KJ} {Q : KQ} {h0 : Nat} {post : KI → KJ → KQ → Prop} (hAd : ∀ k, ad k = base + k) (z0 : OKr (fun _ => True) N T h0 (7, 0)) (hw : wp_X7_init I J Q T N h0 post) : Met l yX7_init (.code yX7_init cX7_init 1 none :: BIG) ({ frames := 1, cells := 1, slots := 8, locals := 24 }) (PrC D D2 A ad base N T I J Q [.ref (ad h0)]) (va_Qv (fun (u : KS) => post u.1 u.2.1 u.2.2) (BwC D D2 ad (N + 1) T A) A) 1 8 A := by
  refine Met_GC (lv0 := [(0, .ref (ad h0))]) (by decide +kernel) rfl [.ref (ad h0)] (Nat.le_of_ble_eq_true rfl) rfl ?_
  intro p e s m below meth c C hr hin2 hCe
  have C : CX p s m [.ref (ad h0)].toArray meth c cX7_init 1 RX7 A D D2 := C
  unfold wp_X7_init at hw
  refine g_aload_n C dX7_init_0 rfl 0 rfl ?_
  refine g_objInit C dX7_init_1 ft_524 (by decide) (by decide) ?_
  refine g_aload_n C dX7_init_4 rfl 0 rfl ?_
  refine g_bipush (v := (8 : Int32)) C dX7_init_5 (by decide) ?_
  refine g_newa C 0 (ty := .int) dX7_init_7 rfl ft_518 rfl hw.1 (fun _ => rfl) (by decide) (fun _ h => h) (by decide) rfl (by decide) hAd (by omega) (by omega) (by decide) (by decide) ?_
  have zz1 : OKr (fun _ => True) (N + 1) T N (20, 8) := ⟨trivial, by omega, hw.1⟩
  have hw := hw.2
  refine g_putQ C dX7_init_9 hin2 ft_525 ⟨rfl, rfl⟩ (okr_up z0 (by omega)) ?_
  exact g_cret C dX7_init_12 hr hw rfl rfl rfl
def wp_X1_init (I : KI) (J : KJ) (Q : KQ) (T : Nat → Nat × Nat) (N h0 : Nat) (post : KI → KJ → KQ → Prop) : Prop := (T N = (4, 0) ∧ wp_X4_init (upk I N zI) (upk J N zJ) (upk Q N zQ) T (N + 1) N (fun I2 J2 Q2 => (T (N + 2) = (24, 6) ∧ (T (N + 3) = (20, 6) ∧ ((stq (upk (stq (upk (stq Q2 h0 0 N) (N + 2) zQ) h0 1 (N + 2)) (N + 3) zQ) h0 2 (N + 3)) h0 1 = some (N + 2) ∧ (T (N + 4) = (7, 0) ∧ wp_X7_init (upk (sti (sti (sti (sti (sti (sti (upk (upk I2 (N + 2) zI) (N + 3) zI) h0 3 (4 : Int32)) h0 4 (4 : Int32)) h0 5 (0 : Int32)) h0 6 (1 : Int32)) h0 7 (0 : Int32)) h0 8 (1 : Int32)) (N + 4) zI) (upk (upk (upk J2 (N + 2) zJ) (N + 3) zJ) (N + 4) zJ) (upk (stq (upk (stq (upk (stq Q2 h0 0 N) (N + 2) zQ) h0 1 (N + 2)) (N + 3) zQ) h0 2 (N + 3)) (N + 4) zQ) T (N + 5) (N + 4) (fun I7 J7 Q7 => ((stq Q7 (N + 2) (0 : Int32).toNatClampNeg (N + 4)) h0 1 = some (N + 2) ∧ (T (N + 6) = (7, 0) ∧ wp_X7_init (upk I7 (N + 6) zI) (upk J7 (N + 6) zJ) (upk (stq Q7 (N + 2) (0 : Int32).toNatClampNeg (N + 4)) (N + 6) zQ) T (N + 7) (N + 6) (fun I10 J10 Q10 => ((stq Q10 (N + 2) (1 : Int32).toNatClampNeg (N + 6)) h0 1 = some (N + 2) ∧ (T (N + 8) = (7, 0) ∧ wp_X7_init (upk I10 (N + 8) zI) (upk J10 (N + 8) zJ) (upk (stq Q10 (N + 2) (1 : Int32).toNatClampNeg (N + 6)) (N + 8) zQ) T (N + 9) (N + 8) (fun I13 J13 Q13 => ((stq Q13 (N + 2) (2 : Int32).toNatClampNeg (N + 8)) h0 1 = some (N + 2) ∧ (T (N + 10) = (7, 0) ∧ wp_X7_init (upk I13 (N + 10) zI) (upk J13 (N + 10) zJ) (upk (stq Q13 (N + 2) (2 : Int32).toNatClampNeg (N + 8)) (N + 10) zQ) T (N + 11) (N + 10) (fun I16 J16 Q16 => ((stq Q16 (N + 2) (3 : Int32).toNatClampNeg (N + 10)) h0 1 = some (N + 2) ∧ (T (N + 12) = (7, 0) ∧ wp_X7_init (upk I16 (N + 12) zI) (upk J16 (N + 12) zJ) (upk (stq Q16 (N + 2) (3 : Int32).toNatClampNeg (N + 10)) (N + 12) zQ) T (N + 13) (N + 12) (fun I19 J19 Q19 => ((stq Q19 (N + 2) (4 : Int32).toNatClampNeg (N + 12)) h0 1 = some (N + 2) ∧ (T (N + 14) = (7, 0) ∧ wp_X7_init (upk I19 (N + 14) zI) (upk J19 (N + 14) zJ) (upk (stq Q19 (N + 2) (4 : Int32).toNatClampNeg (N + 12)) (N + 14) zQ) T (N + 15) (N + 14) (fun I22 J22 Q22 => ((stq Q22 (N + 2) (5 : Int32).toNatClampNeg (N + 14)) h0 0 = some N ∧ (∃ Z : Nat → Prop, WF Z (N + 16) T (stq Q22 (N + 2) (5 : Int32).toNatClampNeg (N + 14)) ∧ OKr Z (N + 16) T N (4, 0) ∧ wp_X4_begin I22 (stq Q22 (N + 2) (5 : Int32).toNatClampNeg (N + 14)) N (0 : Int32) (fun I24 => ((stq Q22 (N + 2) (5 : Int32).toNatClampNeg (N + 14)) h0 0 = some N ∧ (∃ Z : Nat → Prop, WF Z (N + 16) T (stq Q22 (N + 2) (5 : Int32).toNatClampNeg (N + 14)) ∧ OKr Z (N + 16) T N (4, 0) ∧ wp_X4_path I24 (stq Q22 (N + 2) (5 : Int32).toNatClampNeg (N + 14)) N (0 : Int32) (I24 h0 3) (fun I25 => post I25 J22 (stq Q22 (N + 2) (5 : Int32).toNatClampNeg (N + 14))))))))))))))))))))))))))))))
set_option maxHeartbeats 4000000 in
set_option maxRecDepth 100000 in
theorem met_X1_init {A : Nat → Prop} {D : va_G} {D2 : Nat → ClassId} {ad : Nat → Nat} {base N : Nat} {T : Nat → Nat × Nat} (l : Launch) {I : KI} {J : KJ} {Q : KQ} {h0 : Nat} {post : KI → KJ → KQ → Prop} (hAd : ∀ k, ad k = base + k) (z0 : OKr (fun _ => True) N T h0 (1, 0)) (hw : wp_X1_init I J Q T N h0 post) : Met l yX1_init (.code yX1_init cX1_init 2 none :: BIG) ({ frames := 3, cells := 16, slots := 116, locals := 70 }) (PrC D D2 A ad base N T I J Q [.ref (ad h0)]) (va_Qv (fun (u : KS) => post u.1 u.2.1 u.2.2) (BwC D D2 ad (N + 16) T A) A) 16 116 A := by
  refine Met_GC (lv0 := [(0, .ref (ad h0))]) (by decide +kernel) rfl [.ref (ad h0)] (Nat.le_of_ble_eq_true rfl) rfl ?_
  intro p e s m below meth c C hr hin2 hCe
  have C : CX p s m [.ref (ad h0)].toArray meth c cX1_init 2 RX1 A D D2 := C
  unfold wp_X1_init at hw
  refine g_aload_n C dX1_init_0 rfl 0 rfl ?_
  refine g_objInit C dX1_init_1 ft_526 (by decide) (by decide) ?_
  refine g_aload_n C dX1_init_4 rfl 0 rfl ?_
  refine g_new C dX1_init_5 ft_527 hw.1 hAd (by omega) (by omega) (by decide) (by decide) ?_
  have zz1 : OKr (fun _ => True) (N + 1) T N (4, 0) := ⟨trivial, by omega, hw.1⟩
  have hw := hw.2
  refine g_dup C dX1_init_8 rfl ?_
  refine g_callI C dX1_init_9 ft_535 ft_536 (met_X4_init l hAd (okr_up zz1 (by omega)) hw) ⟨rfl, rfl, Nat.le_of_ble_eq_true rfl, Nat.le_of_ble_eq_true rfl⟩ ⟨Nat.le_of_ble_eq_true rfl, Nat.le_of_ble_eq_true rfl⟩ (Nat.le_of_ble_eq_true rfl) hAd (by omega) (by omega) (fun I2 J2 Q2 hw => ?_)
  refine g_putQ C dX1_init_12 hin2 ft_528 ⟨rfl, rfl⟩ (okr_up z0 (by omega)) ?_
  refine g_aload_n C dX1_init_15 rfl 0 rfl ?_
  refine g_bipush (v := (6 : Int32)) C dX1_init_16 (by decide) ?_
  refine g_newq C 4 dX1_init_18 ft_529 rfl hw.1 (by decide) (by decide) rfl (by decide) hAd (by omega) (by omega) (by decide) (by decide) ?_
  have zz3 : OKr (fun _ => True) (N + 3) T (N + 2) (24, 6) := ⟨trivial, by omega, hw.1⟩
  have hw := hw.2
  refine g_putQ C dX1_init_21 hin2 ft_530 ⟨rfl, rfl⟩ (okr_up z0 (by omega)) ?_
  refine g_aload_n C dX1_init_24 rfl 0 rfl ?_
  refine g_bipush (v := (6 : Int32)) C dX1_init_25 (by decide) ?_
  refine g_newa C 0 (ty := .int) dX1_init_27 rfl ft_518 rfl hw.1 (fun _ => rfl) (by decide) (fun _ h => h) (by decide) rfl (by decide) hAd (by omega) (by omega) (by decide) (by decide) ?_
  have zz4 : OKr (fun _ => True) (N + 4) T (N + 3) (20, 6) := ⟨trivial, by omega, hw.1⟩
  have hw := hw.2
  refine g_putQ C dX1_init_29 hin2 ft_531 ⟨rfl, rfl⟩ (okr_up z0 (by omega)) ?_
  refine g_aload_n C dX1_init_32 rfl 0 rfl ?_
  refine g_iconst (v := (4 : Int32)) C dX1_init_33 (by decide) ?_
  refine g_putI C dX1_init_34 ft_78 (okr_up z0 (by omega)) ?_
  refine g_aload_n C dX1_init_37 rfl 0 rfl ?_
  refine g_iconst (v := (4 : Int32)) C dX1_init_38 (by decide) ?_
  refine g_putI C dX1_init_39 ft_80 (okr_up z0 (by omega)) ?_
  refine g_aload_n C dX1_init_42 rfl 0 rfl ?_
  refine g_iconst (v := (0 : Int32)) C dX1_init_43 (by decide) ?_
  refine g_putI C dX1_init_44 ft_82 (okr_up z0 (by omega)) ?_
  refine g_aload_n C dX1_init_47 rfl 0 rfl ?_
  refine g_iconst (v := (1 : Int32)) C dX1_init_48 (by decide) ?_
  refine g_putI C dX1_init_49 ft_83 (okr_up z0 (by omega)) ?_
  refine g_aload_n C dX1_init_52 rfl 0 rfl ?_
  refine g_iconst (v := (0 : Int32)) C dX1_init_53 (by decide) ?_
  refine g_putI C dX1_init_54 ft_85 (okr_up z0 (by omega)) ?_
  refine g_aload_n C dX1_init_57 rfl 0 rfl ?_
  refine g_iconst (v := (1 : Int32)) C dX1_init_58 (by decide) ?_
  refine g_putI C dX1_init_59 ft_87 (okr_up z0 (by omega)) ?_
  refine g_iconst (v := (0 : Int32)) C dX1_init_62 (by decide) ?_
  refine g_istore_n (lv' := [(1, .int (0 : Int32)), (0, .ref (ad h0))]) C dX1_init_63 rfl (by decide) rfl ?_
  refine g_iload_n C dX1_init_64 rfl 0 rfl ?_
  refine g_bipush (v := (6 : Int32)) C dX1_init_65 (by decide) ?_
  refine g_icmp_ge (tgt := 89) C dX1_init_67 (by decide) (fun c5 => absurd c5 (by decide)) (fun _ => ?_)
  refine g_aload_n C dX1_init_70 rfl 1 rfl ?_
  refine g_getQv C dX1_init_71 ft_73 (okr_up z0 (by omega)) hw.1 ?_
  have hw := hw.2
  refine g_iload_n C dX1_init_74 rfl 0 rfl ?_
  refine g_new C dX1_init_75 ft_532 hw.1 hAd (by omega) (by omega) (by decide) (by decide) ?_
  have zz6 : OKr (fun _ => True) (N + 5) T (N + 4) (7, 0) := ⟨trivial, by omega, hw.1⟩
  have hw := hw.2
  refine g_dup C dX1_init_78 rfl ?_
  refine g_callI C dX1_init_79 ft_533 ft_534 (met_X7_init l hAd (okr_up zz6 (by omega)) hw) ⟨rfl, rfl, Nat.le_of_ble_eq_true rfl, Nat.le_of_ble_eq_true rfl⟩ ⟨Nat.le_of_ble_eq_true rfl, Nat.le_of_ble_eq_true rfl⟩ (Nat.le_of_ble_eq_true rfl) hAd (by omega) (by omega) (fun I7 J7 Q7 hw => ?_)
  refine g_aastS C dX1_init_82 (okr_up zz3 (by omega)) (okr_up zz6 (by omega)) (vp_lit (by decide +kernel)) ?_
  refine g_iinc (v := (1 : Int32)) (lv' := [(1, .int (1 : Int32)), (0, .ref (ad h0))]) C dX1_init_83 (q := 0) rfl (by decide) (by decide) rfl ?_
  refine g_goto C dX1_init_86 (tgt := 64) (by decide) ?_
  refine g_iload_n C dX1_init_64 rfl 0 rfl ?_
  refine g_bipush (v := (6 : Int32)) C dX1_init_65 (by decide) ?_
  refine g_icmp_ge (tgt := 89) C dX1_init_67 (by decide) (fun c8 => absurd c8 (by decide)) (fun _ => ?_)
  refine g_aload_n C dX1_init_70 rfl 1 rfl ?_
  refine g_getQv C dX1_init_71 ft_73 (okr_up z0 (by omega)) hw.1 ?_
  have hw := hw.2
  refine g_iload_n C dX1_init_74 rfl 0 rfl ?_
  refine g_new C dX1_init_75 ft_532 hw.1 hAd (by omega) (by omega) (by decide) (by decide) ?_
  have zz9 : OKr (fun _ => True) (N + 7) T (N + 6) (7, 0) := ⟨trivial, by omega, hw.1⟩
  have hw := hw.2
  refine g_dup C dX1_init_78 rfl ?_
  refine g_callI C dX1_init_79 ft_533 ft_534 (met_X7_init l hAd (okr_up zz9 (by omega)) hw) ⟨rfl, rfl, Nat.le_of_ble_eq_true rfl, Nat.le_of_ble_eq_true rfl⟩ ⟨Nat.le_of_ble_eq_true rfl, Nat.le_of_ble_eq_true rfl⟩ (Nat.le_of_ble_eq_true rfl) hAd (by omega) (by omega) (fun I10 J10 Q10 hw => ?_)
  refine g_aastS C dX1_init_82 (okr_up zz3 (by omega)) (okr_up zz9 (by omega)) (vp_lit (by decide +kernel)) ?_
  refine g_iinc (v := (2 : Int32)) (lv' := [(1, .int (2 : Int32)), (0, .ref (ad h0))]) C dX1_init_83 (q := 0) rfl (by decide) (by decide) rfl ?_
  refine g_goto C dX1_init_86 (tgt := 64) (by decide) ?_
  refine g_iload_n C dX1_init_64 rfl 0 rfl ?_
  refine g_bipush (v := (6 : Int32)) C dX1_init_65 (by decide) ?_
  refine g_icmp_ge (tgt := 89) C dX1_init_67 (by decide) (fun c11 => absurd c11 (by decide)) (fun _ => ?_)
  refine g_aload_n C dX1_init_70 rfl 1 rfl ?_
  refine g_getQv C dX1_init_71 ft_73 (okr_up z0 (by omega)) hw.1 ?_
  have hw := hw.2
  refine g_iload_n C dX1_init_74 rfl 0 rfl ?_
  refine g_new C dX1_init_75 ft_532 hw.1 hAd (by omega) (by omega) (by decide) (by decide) ?_
  have zz12 : OKr (fun _ => True) (N + 9) T (N + 8) (7, 0) := ⟨trivial, by omega, hw.1⟩
  have hw := hw.2
  refine g_dup C dX1_init_78 rfl ?_
  refine g_callI C dX1_init_79 ft_533 ft_534 (met_X7_init l hAd (okr_up zz12 (by omega)) hw) ⟨rfl, rfl, Nat.le_of_ble_eq_true rfl, Nat.le_of_ble_eq_true rfl⟩ ⟨Nat.le_of_ble_eq_true rfl, Nat.le_of_ble_eq_true rfl⟩ (Nat.le_of_ble_eq_true rfl) hAd (by omega) (by omega) (fun I13 J13 Q13 hw => ?_)
  refine g_aastS C dX1_init_82 (okr_up zz3 (by omega)) (okr_up zz12 (by omega)) (vp_lit (by decide +kernel)) ?_
  refine g_iinc (v := (3 : Int32)) (lv' := [(1, .int (3 : Int32)), (0, .ref (ad h0))]) C dX1_init_83 (q := 0) rfl (by decide) (by decide) rfl ?_
  refine g_goto C dX1_init_86 (tgt := 64) (by decide) ?_
  refine g_iload_n C dX1_init_64 rfl 0 rfl ?_
  refine g_bipush (v := (6 : Int32)) C dX1_init_65 (by decide) ?_
  refine g_icmp_ge (tgt := 89) C dX1_init_67 (by decide) (fun c14 => absurd c14 (by decide)) (fun _ => ?_)
  refine g_aload_n C dX1_init_70 rfl 1 rfl ?_
  refine g_getQv C dX1_init_71 ft_73 (okr_up z0 (by omega)) hw.1 ?_
  have hw := hw.2
  refine g_iload_n C dX1_init_74 rfl 0 rfl ?_
  refine g_new C dX1_init_75 ft_532 hw.1 hAd (by omega) (by omega) (by decide) (by decide) ?_
  have zz15 : OKr (fun _ => True) (N + 11) T (N + 10) (7, 0) := ⟨trivial, by omega, hw.1⟩
  have hw := hw.2
  refine g_dup C dX1_init_78 rfl ?_
  refine g_callI C dX1_init_79 ft_533 ft_534 (met_X7_init l hAd (okr_up zz15 (by omega)) hw) ⟨rfl, rfl, Nat.le_of_ble_eq_true rfl, Nat.le_of_ble_eq_true rfl⟩ ⟨Nat.le_of_ble_eq_true rfl, Nat.le_of_ble_eq_true rfl⟩ (Nat.le_of_ble_eq_true rfl) hAd (by omega) (by omega) (fun I16 J16 Q16 hw => ?_)
  refine g_aastS C dX1_init_82 (okr_up zz3 (by omega)) (okr_up zz15 (by omega)) (vp_lit (by decide +kernel)) ?_
  refine g_iinc (v := (4 : Int32)) (lv' := [(1, .int (4 : Int32)), (0, .ref (ad h0))]) C dX1_init_83 (q := 0) rfl (by decide) (by decide) rfl ?_
  refine g_goto C dX1_init_86 (tgt := 64) (by decide) ?_
  refine g_iload_n C dX1_init_64 rfl 0 rfl ?_
  refine g_bipush (v := (6 : Int32)) C dX1_init_65 (by decide) ?_
  refine g_icmp_ge (tgt := 89) C dX1_init_67 (by decide) (fun c17 => absurd c17 (by decide)) (fun _ => ?_)
  refine g_aload_n C dX1_init_70 rfl 1 rfl ?_
  refine g_getQv C dX1_init_71 ft_73 (okr_up z0 (by omega)) hw.1 ?_
  have hw := hw.2
  refine g_iload_n C dX1_init_74 rfl 0 rfl ?_
  refine g_new C dX1_init_75 ft_532 hw.1 hAd (by omega) (by omega) (by decide) (by decide) ?_
  have zz18 : OKr (fun _ => True) (N + 13) T (N + 12) (7, 0) := ⟨trivial, by omega, hw.1⟩
  have hw := hw.2
  refine g_dup C dX1_init_78 rfl ?_
  refine g_callI C dX1_init_79 ft_533 ft_534 (met_X7_init l hAd (okr_up zz18 (by omega)) hw) ⟨rfl, rfl, Nat.le_of_ble_eq_true rfl, Nat.le_of_ble_eq_true rfl⟩ ⟨Nat.le_of_ble_eq_true rfl, Nat.le_of_ble_eq_true rfl⟩ (Nat.le_of_ble_eq_true rfl) hAd (by omega) (by omega) (fun I19 J19 Q19 hw => ?_)
  refine g_aastS C dX1_init_82 (okr_up zz3 (by omega)) (okr_up zz18 (by omega)) (vp_lit (by decide +kernel)) ?_
  refine g_iinc (v := (5 : Int32)) (lv' := [(1, .int (5 : Int32)), (0, .ref (ad h0))]) C dX1_init_83 (q := 0) rfl (by decide) (by decide) rfl ?_
  refine g_goto C dX1_init_86 (tgt := 64) (by decide) ?_
  refine g_iload_n C dX1_init_64 rfl 0 rfl ?_
  refine g_bipush (v := (6 : Int32)) C dX1_init_65 (by decide) ?_
  refine g_icmp_ge (tgt := 89) C dX1_init_67 (by decide) (fun c20 => absurd c20 (by decide)) (fun _ => ?_)
  refine g_aload_n C dX1_init_70 rfl 1 rfl ?_
  refine g_getQv C dX1_init_71 ft_73 (okr_up z0 (by omega)) hw.1 ?_
  have hw := hw.2
  refine g_iload_n C dX1_init_74 rfl 0 rfl ?_
  refine g_new C dX1_init_75 ft_532 hw.1 hAd (by omega) (by omega) (by decide) (by decide) ?_
  have zz21 : OKr (fun _ => True) (N + 15) T (N + 14) (7, 0) := ⟨trivial, by omega, hw.1⟩
  have hw := hw.2
  refine g_dup C dX1_init_78 rfl ?_
  refine g_callI C dX1_init_79 ft_533 ft_534 (met_X7_init l hAd (okr_up zz21 (by omega)) hw) ⟨rfl, rfl, Nat.le_of_ble_eq_true rfl, Nat.le_of_ble_eq_true rfl⟩ ⟨Nat.le_of_ble_eq_true rfl, Nat.le_of_ble_eq_true rfl⟩ (Nat.le_of_ble_eq_true rfl) hAd (by omega) (by omega) (fun I22 J22 Q22 hw => ?_)
  refine g_aastS C dX1_init_82 (okr_up zz3 (by omega)) (okr_up zz21 (by omega)) (vp_lit (by decide +kernel)) ?_
  refine g_iinc (v := (6 : Int32)) (lv' := [(1, .int (6 : Int32)), (0, .ref (ad h0))]) C dX1_init_83 (q := 0) rfl (by decide) (by decide) rfl ?_
  refine g_goto C dX1_init_86 (tgt := 64) (by decide) ?_
  refine g_iload_n C dX1_init_64 rfl 0 rfl ?_
  refine g_bipush (v := (6 : Int32)) C dX1_init_65 (by decide) ?_
  refine g_icmp_ge (tgt := 89) C dX1_init_67 (by decide) (fun _ => ?_) (fun c23 => absurd (by decide) c23)
  refine g_aload_n C dX1_init_89 rfl 1 rfl ?_
  refine g_getQv C dX1_init_90 ft_6 (okr_up z0 (by omega)) hw.1 ?_
  have hw := hw.2
  refine g_iconst (v := (0 : Int32)) C dX1_init_93 (by decide) ?_
  obtain ⟨Z, hWF, hz9, hw⟩ := hw
  refine g_callVv (As := [.int (0 : Int32)]) C dX1_init_94 ft_10 hz9 ft_99 ft_100 (met_X4_begin l hWF hz9 hw) ⟨rfl, rfl, Nat.le_of_ble_eq_true rfl, Nat.le_of_ble_eq_true rfl⟩ ⟨Nat.le_of_ble_eq_true rfl, Nat.le_of_ble_eq_true rfl⟩ rfl rfl (Nat.le_of_ble_eq_true rfl) (fun I24 J24 Q24 hp => ?_)
  obtain ⟨hw, eJ, eQ, hWF⟩ := hp
  have eJ : J22 = J24 := Eq.symm eJ
  subst eJ
  have eQ : (stq Q22 (N + 2) (5 : Int32).toNatClampNeg (N + 14)) = Q24 := Eq.symm eQ
  subst eQ
  clear hWF hz9
  try dsimp only at hw
  refine g_aload_n C dX1_init_97 rfl 1 rfl ?_
  refine g_getQv C dX1_init_98 ft_6 (okr_up z0 (by omega)) hw.1 ?_
  have hw := hw.2
  refine g_iconst (v := (0 : Int32)) C dX1_init_101 (by decide) ?_
  refine g_aload_n C dX1_init_102 rfl 1 rfl ?_
  refine g_getI C dX1_init_103 ft_77 (okr_up z0 (by omega)) ?_
  obtain ⟨Z, hWF, hz9, hw⟩ := hw
  refine g_callVv (As := [.int (0 : Int32), .int (I24 h0 3)]) C dX1_init_106 ft_10 hz9 ft_97 ft_98 (met_X4_path l hWF hz9 hw) ⟨rfl, rfl, Nat.le_of_ble_eq_true rfl, Nat.le_of_ble_eq_true rfl⟩ ⟨Nat.le_of_ble_eq_true rfl, Nat.le_of_ble_eq_true rfl⟩ rfl rfl (Nat.le_of_ble_eq_true rfl) (fun I25 J25 Q25 hp => ?_)
  obtain ⟨hw, eJ, eQ, hWF⟩ := hp
  have eJ : J22 = J25 := Eq.symm eJ
  subst eJ
  have eQ : (stq Q22 (N + 2) (5 : Int32).toNatClampNeg (N + 14)) = Q25 := Eq.symm eQ
  subst eQ
  clear hWF hz9
  try dsimp only at hw
  exact g_cret C dX1_init_109 hr hw rfl rfl rfl
def wp_X2_init (I : KI) (J : KJ) (Q : KQ) (T : Nat → Nat × Nat) (N h0 : Nat) (post : KI → KJ → KQ → Prop) : Prop := (T N = (23, 64) ∧ post (upk I N zI) (upk J N zJ) (stq (upk Q N zQ) h0 0 N))
set_option maxHeartbeats 4000000 in
set_option maxRecDepth 100000 in
theorem met_X2_init {A : Nat → Prop} {D : va_G} {D2 : Nat → ClassId} {ad : Nat → Nat} {base N : Nat} {T : Nat → Nat × Nat} (l : Launch) {I : KI} {J : KJ} {Q : KQ} {h0 : Nat} {post : KI → KJ → KQ → Prop} (hAd : ∀ k, ad k = base + k) (z0 : OKr (fun _ => True) N T h0 (2, 0)) (hw : wp_X2_init I J Q T N h0 post) : Met l yX2_init (.code yX2_init cX2_init 1 none :: BIG) ({ frames := 1, cells := 1, slots := 64, locals := 24 }) (PrC D D2 A ad base N T I J Q [.ref (ad h0)]) (va_Qv (fun (u : KS) => post u.1 u.2.1 u.2.2) (BwC D D2 ad (N + 1) T A) A) 1 64 A := by
  refine Met_GC (lv0 := [(0, .ref (ad h0))]) (by decide +kernel) rfl [.ref (ad h0)] (Nat.le_of_ble_eq_true rfl) rfl ?_
  intro p e s m below meth c C hr hin2 hCe
  have C : CX p s m [.ref (ad h0)].toArray meth c cX2_init 1 RX2 A D D2 := C
  unfold wp_X2_init at hw
  refine g_aload_n C dX2_init_0 rfl 0 rfl ?_
  refine g_objInit C dX2_init_1 ft_537 (by decide) (by decide) ?_
  refine g_aload_n C dX2_init_4 rfl 0 rfl ?_
  refine g_bipush (v := (64 : Int32)) C dX2_init_5 (by decide) ?_
  refine g_newa C 3 (ty := .long) dX2_init_7 rfl ft_538 rfl hw.1 (fun _ => rfl) (by decide) (fun _ h => h) (by decide) rfl (by decide) hAd (by omega) (by omega) (by decide) (by decide) ?_
  have zz1 : OKr (fun _ => True) (N + 1) T N (23, 64) := ⟨trivial, by omega, hw.1⟩
  have hw := hw.2
  refine g_putQ C dX2_init_9 hin2 ft_539 ⟨rfl, rfl⟩ (okr_up z0 (by omega)) ?_
  exact g_cret C dX2_init_12 hr hw rfl rfl rfl
def wp_X3_init (I : KI) (J : KJ) (Q : KQ) (T : Nat → Nat × Nat) (N h0 : Nat) (post : KI → KJ → KQ → Prop) : Prop := (T N = (25, 6) ∧ ((stq (upk Q N zQ) h0 0 N) h0 0 = some N ∧ (T (N + 1) = (1, 0) ∧ wp_X1_init (upk (upk I N zI) (N + 1) zI) (upk (upk J N zJ) (N + 1) zJ) (upk (stq (upk Q N zQ) h0 0 N) (N + 1) zQ) T (N + 2) (N + 1) (fun I4 J4 Q4 => ((stq Q4 N (0 : Int32).toNatClampNeg (N + 1)) h0 0 = some N ∧ (T (N + 18) = (1, 0) ∧ wp_X1_init (upk I4 (N + 18) zI) (upk J4 (N + 18) zJ) (upk (stq Q4 N (0 : Int32).toNatClampNeg (N + 1)) (N + 18) zQ) T (N + 19) (N + 18) (fun I7 J7 Q7 => ((stq Q7 N (1 : Int32).toNatClampNeg (N + 18)) h0 0 = some N ∧ (T (N + 35) = (1, 0) ∧ wp_X1_init (upk I7 (N + 35) zI) (upk J7 (N + 35) zJ) (upk (stq Q7 N (1 : Int32).toNatClampNeg (N + 18)) (N + 35) zQ) T (N + 36) (N + 35) (fun I10 J10 Q10 => ((stq Q10 N (2 : Int32).toNatClampNeg (N + 35)) h0 0 = some N ∧ (T (N + 52) = (1, 0) ∧ wp_X1_init (upk I10 (N + 52) zI) (upk J10 (N + 52) zJ) (upk (stq Q10 N (2 : Int32).toNatClampNeg (N + 35)) (N + 52) zQ) T (N + 53) (N + 52) (fun I13 J13 Q13 => ((stq Q13 N (3 : Int32).toNatClampNeg (N + 52)) h0 0 = some N ∧ (T (N + 69) = (1, 0) ∧ wp_X1_init (upk I13 (N + 69) zI) (upk J13 (N + 69) zJ) (upk (stq Q13 N (3 : Int32).toNatClampNeg (N + 52)) (N + 69) zQ) T (N + 70) (N + 69) (fun I16 J16 Q16 => ((stq Q16 N (4 : Int32).toNatClampNeg (N + 69)) h0 0 = some N ∧ (T (N + 86) = (1, 0) ∧ wp_X1_init (upk I16 (N + 86) zI) (upk J16 (N + 86) zJ) (upk (stq Q16 N (4 : Int32).toNatClampNeg (N + 69)) (N + 86) zQ) T (N + 87) (N + 86) (fun I19 J19 Q19 => post I19 J19 (stq Q19 N (5 : Int32).toNatClampNeg (N + 86)))))))))))))))))))))
set_option maxHeartbeats 4000000 in
set_option maxRecDepth 100000 in
theorem met_X3_init {A : Nat → Prop} {D : va_G} {D2 : Nat → ClassId} {ad : Nat → Nat} {base N : Nat} {T : Nat → Nat × Nat} (l : Launch) {I : KI} {J : KJ} {Q : KQ} {h0 : Nat} {post : KI → KJ → KQ → Prop} (hAd : ∀ k, ad k = base + k) (z0 : OKr (fun _ => True) N T h0 (3, 0)) (hw : wp_X3_init I J Q T N h0 post) : Met l yX3_init (.code yX3_init cX3_init 2 none :: BIG) ({ frames := 4, cells := 103, slots := 756, locals := 91 }) (PrC D D2 A ad base N T I J Q [.ref (ad h0)]) (va_Qv (fun (u : KS) => post u.1 u.2.1 u.2.2) (BwC D D2 ad (N + 103) T A) A) 103 756 A := by
  refine Met_GC (lv0 := [(0, .ref (ad h0))]) (by decide +kernel) rfl [.ref (ad h0)] (Nat.le_of_ble_eq_true rfl) rfl ?_
  intro p e s m below meth c C hr hin2 hCe
  have C : CX p s m [.ref (ad h0)].toArray meth c cX3_init 2 RX3 A D D2 := C
  unfold wp_X3_init at hw
  refine g_aload_n C dX3_init_0 rfl 0 rfl ?_
  refine g_objInit C dX3_init_1 ft_540 (by decide) (by decide) ?_
  refine g_aload_n C dX3_init_4 rfl 0 rfl ?_
  refine g_bipush (v := (6 : Int32)) C dX3_init_5 (by decide) ?_
  refine g_newq C 5 dX3_init_7 ft_541 rfl hw.1 (by decide) (by decide) rfl (by decide) hAd (by omega) (by omega) (by decide) (by decide) ?_
  have zz1 : OKr (fun _ => True) (N + 1) T N (25, 6) := ⟨trivial, by omega, hw.1⟩
  have hw := hw.2
  refine g_putQ C dX3_init_10 hin2 ft_542 ⟨rfl, rfl⟩ (okr_up z0 (by omega)) ?_
  refine g_iconst (v := (0 : Int32)) C dX3_init_13 (by decide) ?_
  refine g_istore_n (lv' := [(1, .int (0 : Int32)), (0, .ref (ad h0))]) C dX3_init_14 rfl (by decide) rfl ?_
  refine g_iload_n C dX3_init_15 rfl 0 rfl ?_
  refine g_bipush (v := (6 : Int32)) C dX3_init_16 (by decide) ?_
  refine g_icmp_ge (tgt := 40) C dX3_init_18 (by decide) (fun c2 => absurd c2 (by decide)) (fun _ => ?_)
  refine g_aload_n C dX3_init_21 rfl 1 rfl ?_
  refine g_getQv C dX3_init_22 ft_125 (okr_up z0 (by omega)) hw.1 ?_
  have hw := hw.2
  refine g_iload_n C dX3_init_25 rfl 0 rfl ?_
  refine g_new C dX3_init_26 ft_543 hw.1 hAd (by omega) (by omega) (by decide) (by decide) ?_
  have zz3 : OKr (fun _ => True) (N + 2) T (N + 1) (1, 0) := ⟨trivial, by omega, hw.1⟩
  have hw := hw.2
  refine g_dup C dX3_init_29 rfl ?_
  refine g_callI C dX3_init_30 ft_544 ft_545 (met_X1_init l hAd (okr_up zz3 (by omega)) hw) ⟨rfl, rfl, Nat.le_of_ble_eq_true rfl, Nat.le_of_ble_eq_true rfl⟩ ⟨Nat.le_of_ble_eq_true rfl, Nat.le_of_ble_eq_true rfl⟩ (Nat.le_of_ble_eq_true rfl) hAd (by omega) (by omega) (fun I4 J4 Q4 hw => ?_)
  refine g_aastN C dX3_init_33 (okr_up zz1 (by omega)) (okr_up zz3 (by omega)) (vp_lit (by decide +kernel)) ?_
  refine g_iinc (v := (1 : Int32)) (lv' := [(1, .int (1 : Int32)), (0, .ref (ad h0))]) C dX3_init_34 (q := 0) rfl (by decide) (by decide) rfl ?_
  refine g_goto C dX3_init_37 (tgt := 15) (by decide) ?_
  refine g_iload_n C dX3_init_15 rfl 0 rfl ?_
  refine g_bipush (v := (6 : Int32)) C dX3_init_16 (by decide) ?_
  refine g_icmp_ge (tgt := 40) C dX3_init_18 (by decide) (fun c5 => absurd c5 (by decide)) (fun _ => ?_)
  refine g_aload_n C dX3_init_21 rfl 1 rfl ?_
  refine g_getQv C dX3_init_22 ft_125 (okr_up z0 (by omega)) hw.1 ?_
  have hw := hw.2
  refine g_iload_n C dX3_init_25 rfl 0 rfl ?_
  refine g_new C dX3_init_26 ft_543 hw.1 hAd (by omega) (by omega) (by decide) (by decide) ?_
  have zz6 : OKr (fun _ => True) (N + 19) T (N + 18) (1, 0) := ⟨trivial, by omega, hw.1⟩
  have hw := hw.2
  refine g_dup C dX3_init_29 rfl ?_
  refine g_callI C dX3_init_30 ft_544 ft_545 (met_X1_init l hAd (okr_up zz6 (by omega)) hw) ⟨rfl, rfl, Nat.le_of_ble_eq_true rfl, Nat.le_of_ble_eq_true rfl⟩ ⟨Nat.le_of_ble_eq_true rfl, Nat.le_of_ble_eq_true rfl⟩ (Nat.le_of_ble_eq_true rfl) hAd (by omega) (by omega) (fun I7 J7 Q7 hw => ?_)
  refine g_aastN C dX3_init_33 (okr_up zz1 (by omega)) (okr_up zz6 (by omega)) (vp_lit (by decide +kernel)) ?_
  refine g_iinc (v := (2 : Int32)) (lv' := [(1, .int (2 : Int32)), (0, .ref (ad h0))]) C dX3_init_34 (q := 0) rfl (by decide) (by decide) rfl ?_
  refine g_goto C dX3_init_37 (tgt := 15) (by decide) ?_
  refine g_iload_n C dX3_init_15 rfl 0 rfl ?_
  refine g_bipush (v := (6 : Int32)) C dX3_init_16 (by decide) ?_
  refine g_icmp_ge (tgt := 40) C dX3_init_18 (by decide) (fun c8 => absurd c8 (by decide)) (fun _ => ?_)
  refine g_aload_n C dX3_init_21 rfl 1 rfl ?_
  refine g_getQv C dX3_init_22 ft_125 (okr_up z0 (by omega)) hw.1 ?_
  have hw := hw.2
  refine g_iload_n C dX3_init_25 rfl 0 rfl ?_
  refine g_new C dX3_init_26 ft_543 hw.1 hAd (by omega) (by omega) (by decide) (by decide) ?_
  have zz9 : OKr (fun _ => True) (N + 36) T (N + 35) (1, 0) := ⟨trivial, by omega, hw.1⟩
  have hw := hw.2
  refine g_dup C dX3_init_29 rfl ?_
  refine g_callI C dX3_init_30 ft_544 ft_545 (met_X1_init l hAd (okr_up zz9 (by omega)) hw) ⟨rfl, rfl, Nat.le_of_ble_eq_true rfl, Nat.le_of_ble_eq_true rfl⟩ ⟨Nat.le_of_ble_eq_true rfl, Nat.le_of_ble_eq_true rfl⟩ (Nat.le_of_ble_eq_true rfl) hAd (by omega) (by omega) (fun I10 J10 Q10 hw => ?_)
  refine g_aastN C dX3_init_33 (okr_up zz1 (by omega)) (okr_up zz9 (by omega)) (vp_lit (by decide +kernel)) ?_
  refine g_iinc (v := (3 : Int32)) (lv' := [(1, .int (3 : Int32)), (0, .ref (ad h0))]) C dX3_init_34 (q := 0) rfl (by decide) (by decide) rfl ?_
  refine g_goto C dX3_init_37 (tgt := 15) (by decide) ?_
  refine g_iload_n C dX3_init_15 rfl 0 rfl ?_
  refine g_bipush (v := (6 : Int32)) C dX3_init_16 (by decide) ?_
  refine g_icmp_ge (tgt := 40) C dX3_init_18 (by decide) (fun c11 => absurd c11 (by decide)) (fun _ => ?_)
  refine g_aload_n C dX3_init_21 rfl 1 rfl ?_
  refine g_getQv C dX3_init_22 ft_125 (okr_up z0 (by omega)) hw.1 ?_
  have hw := hw.2
  refine g_iload_n C dX3_init_25 rfl 0 rfl ?_
  refine g_new C dX3_init_26 ft_543 hw.1 hAd (by omega) (by omega) (by decide) (by decide) ?_
  have zz12 : OKr (fun _ => True) (N + 53) T (N + 52) (1, 0) := ⟨trivial, by omega, hw.1⟩
  have hw := hw.2
  refine g_dup C dX3_init_29 rfl ?_
  refine g_callI C dX3_init_30 ft_544 ft_545 (met_X1_init l hAd (okr_up zz12 (by omega)) hw) ⟨rfl, rfl, Nat.le_of_ble_eq_true rfl, Nat.le_of_ble_eq_true rfl⟩ ⟨Nat.le_of_ble_eq_true rfl, Nat.le_of_ble_eq_true rfl⟩ (Nat.le_of_ble_eq_true rfl) hAd (by omega) (by omega) (fun I13 J13 Q13 hw => ?_)
  refine g_aastN C dX3_init_33 (okr_up zz1 (by omega)) (okr_up zz12 (by omega)) (vp_lit (by decide +kernel)) ?_
  refine g_iinc (v := (4 : Int32)) (lv' := [(1, .int (4 : Int32)), (0, .ref (ad h0))]) C dX3_init_34 (q := 0) rfl (by decide) (by decide) rfl ?_
  refine g_goto C dX3_init_37 (tgt := 15) (by decide) ?_
  refine g_iload_n C dX3_init_15 rfl 0 rfl ?_
  refine g_bipush (v := (6 : Int32)) C dX3_init_16 (by decide) ?_
  refine g_icmp_ge (tgt := 40) C dX3_init_18 (by decide) (fun c14 => absurd c14 (by decide)) (fun _ => ?_)
  refine g_aload_n C dX3_init_21 rfl 1 rfl ?_
  refine g_getQv C dX3_init_22 ft_125 (okr_up z0 (by omega)) hw.1 ?_
  have hw := hw.2
  refine g_iload_n C dX3_init_25 rfl 0 rfl ?_
  refine g_new C dX3_init_26 ft_543 hw.1 hAd (by omega) (by omega) (by decide) (by decide) ?_
  have zz15 : OKr (fun _ => True) (N + 70) T (N + 69) (1, 0) := ⟨trivial, by omega, hw.1⟩
  have hw := hw.2
  refine g_dup C dX3_init_29 rfl ?_
  refine g_callI C dX3_init_30 ft_544 ft_545 (met_X1_init l hAd (okr_up zz15 (by omega)) hw) ⟨rfl, rfl, Nat.le_of_ble_eq_true rfl, Nat.le_of_ble_eq_true rfl⟩ ⟨Nat.le_of_ble_eq_true rfl, Nat.le_of_ble_eq_true rfl⟩ (Nat.le_of_ble_eq_true rfl) hAd (by omega) (by omega) (fun I16 J16 Q16 hw => ?_)
  refine g_aastN C dX3_init_33 (okr_up zz1 (by omega)) (okr_up zz15 (by omega)) (vp_lit (by decide +kernel)) ?_
  refine g_iinc (v := (5 : Int32)) (lv' := [(1, .int (5 : Int32)), (0, .ref (ad h0))]) C dX3_init_34 (q := 0) rfl (by decide) (by decide) rfl ?_
  refine g_goto C dX3_init_37 (tgt := 15) (by decide) ?_
  refine g_iload_n C dX3_init_15 rfl 0 rfl ?_
  refine g_bipush (v := (6 : Int32)) C dX3_init_16 (by decide) ?_
  refine g_icmp_ge (tgt := 40) C dX3_init_18 (by decide) (fun c17 => absurd c17 (by decide)) (fun _ => ?_)
  refine g_aload_n C dX3_init_21 rfl 1 rfl ?_
  refine g_getQv C dX3_init_22 ft_125 (okr_up z0 (by omega)) hw.1 ?_
  have hw := hw.2
  refine g_iload_n C dX3_init_25 rfl 0 rfl ?_
  refine g_new C dX3_init_26 ft_543 hw.1 hAd (by omega) (by omega) (by decide) (by decide) ?_
  have zz18 : OKr (fun _ => True) (N + 87) T (N + 86) (1, 0) := ⟨trivial, by omega, hw.1⟩
  have hw := hw.2
  refine g_dup C dX3_init_29 rfl ?_
  refine g_callI C dX3_init_30 ft_544 ft_545 (met_X1_init l hAd (okr_up zz18 (by omega)) hw) ⟨rfl, rfl, Nat.le_of_ble_eq_true rfl, Nat.le_of_ble_eq_true rfl⟩ ⟨Nat.le_of_ble_eq_true rfl, Nat.le_of_ble_eq_true rfl⟩ (Nat.le_of_ble_eq_true rfl) hAd (by omega) (by omega) (fun I19 J19 Q19 hw => ?_)
  refine g_aastN C dX3_init_33 (okr_up zz1 (by omega)) (okr_up zz18 (by omega)) (vp_lit (by decide +kernel)) ?_
  refine g_iinc (v := (6 : Int32)) (lv' := [(1, .int (6 : Int32)), (0, .ref (ad h0))]) C dX3_init_34 (q := 0) rfl (by decide) (by decide) rfl ?_
  refine g_goto C dX3_init_37 (tgt := 15) (by decide) ?_
  refine g_iload_n C dX3_init_15 rfl 0 rfl ?_
  refine g_bipush (v := (6 : Int32)) C dX3_init_16 (by decide) ?_
  refine g_icmp_ge (tgt := 40) C dX3_init_18 (by decide) (fun _ => ?_) (fun c20 => absurd (by decide) c20)
  exact g_cret C dX3_init_40 hr hw rfl rfl rfl
def wp_X5_init (I : KI) (J : KJ) (Q : KQ) (T : Nat → Nat × Nat) (N h0 : Nat) (post : KI → KJ → KQ → Prop) : Prop := (T N = (20, 48) ∧ (T (N + 1) = (20, 6) ∧ (T (N + 2) = (7, 0) ∧ wp_X7_init (upk (upk (upk I N zI) (N + 1) zI) (N + 2) zI) (upk (upk (upk J N zJ) (N + 1) zJ) (N + 2) zJ) (upk (stq (upk (stq (upk Q N zQ) h0 0 N) (N + 1) zQ) h0 1 (N + 1)) (N + 2) zQ) T (N + 3) (N + 2) (fun I4 J4 Q4 => post I4 J4 (stq Q4 h0 2 (N + 2))))))
set_option maxHeartbeats 4000000 in
set_option maxRecDepth 100000 in
theorem met_X5_init {A : Nat → Prop} {D : va_G} {D2 : Nat → ClassId} {ad : Nat → Nat} {base N : Nat} {T : Nat → Nat × Nat} (l : Launch) {I : KI} {J : KJ} {Q : KQ} {h0 : Nat} {post : KI → KJ → KQ → Prop} (hAd : ∀ k, ad k = base + k) (z0 : OKr (fun _ => True) N T h0 (5, 0)) (hw : wp_X5_init I J Q T N h0 post) : Met l yX5_init (.code yX5_init cX5_init 1 none :: BIG) ({ frames := 2, cells := 4, slots := 63, locals := 44 }) (PrC D D2 A ad base N T I J Q [.ref (ad h0)]) (va_Qv (fun (u : KS) => post u.1 u.2.1 u.2.2) (BwC D D2 ad (N + 4) T A) A) 4 63 A := by
  refine Met_GC (lv0 := [(0, .ref (ad h0))]) (by decide +kernel) rfl [.ref (ad h0)] (Nat.le_of_ble_eq_true rfl) rfl ?_
  intro p e s m below meth c C hr hin2 hCe
  have C : CX p s m [.ref (ad h0)].toArray meth c cX5_init 1 RX5 A D D2 := C
  unfold wp_X5_init at hw
  refine g_aload_n C dX5_init_0 rfl 0 rfl ?_
  refine g_objInit C dX5_init_1 ft_546 (by decide) (by decide) ?_
  refine g_aload_n C dX5_init_4 rfl 0 rfl ?_
  refine g_bipush (v := (48 : Int32)) C dX5_init_5 (by decide) ?_
  refine g_newa C 0 (ty := .int) dX5_init_7 rfl ft_518 rfl hw.1 (fun _ => rfl) (by decide) (fun _ h => h) (by decide) rfl (by decide) hAd (by omega) (by omega) (by decide) (by decide) ?_
  have zz1 : OKr (fun _ => True) (N + 1) T N (20, 48) := ⟨trivial, by omega, hw.1⟩
  have hw := hw.2
  refine g_putQ C dX5_init_9 hin2 ft_547 ⟨rfl, rfl⟩ (okr_up z0 (by omega)) ?_
  refine g_aload_n C dX5_init_12 rfl 0 rfl ?_
  refine g_bipush (v := (6 : Int32)) C dX5_init_13 (by decide) ?_
  refine g_newa C 0 (ty := .int) dX5_init_15 rfl ft_518 rfl hw.1 (fun _ => rfl) (by decide) (fun _ h => h) (by decide) rfl (by decide) hAd (by omega) (by omega) (by decide) (by decide) ?_
  have zz2 : OKr (fun _ => True) (N + 2) T (N + 1) (20, 6) := ⟨trivial, by omega, hw.1⟩
  have hw := hw.2
  refine g_putQ C dX5_init_17 hin2 ft_548 ⟨rfl, rfl⟩ (okr_up z0 (by omega)) ?_
  refine g_aload_n C dX5_init_20 rfl 0 rfl ?_
  refine g_new C dX5_init_21 ft_549 hw.1 hAd (by omega) (by omega) (by decide) (by decide) ?_
  have zz3 : OKr (fun _ => True) (N + 3) T (N + 2) (7, 0) := ⟨trivial, by omega, hw.1⟩
  have hw := hw.2
  refine g_dup C dX5_init_24 rfl ?_
  refine g_callI C dX5_init_25 ft_551 ft_534 (met_X7_init l hAd (okr_up zz3 (by omega)) hw) ⟨rfl, rfl, Nat.le_of_ble_eq_true rfl, Nat.le_of_ble_eq_true rfl⟩ ⟨Nat.le_of_ble_eq_true rfl, Nat.le_of_ble_eq_true rfl⟩ (Nat.le_of_ble_eq_true rfl) hAd (by omega) (by omega) (fun I4 J4 Q4 hw => ?_)
  refine g_putQ C dX5_init_28 hin2 ft_550 ⟨rfl, rfl⟩ (okr_up z0 (by omega)) ?_
  exact g_cret C dX5_init_31 hr hw rfl rfl rfl
def wp_X6_init (I : KI) (J : KJ) (Q : KQ) (T : Nat → Nat × Nat) (N h0 : Nat) (post : KI → KJ → KQ → Prop) : Prop := (T N = (23, 24) ∧ post (sti (upk I N zI) h0 1 (-1 : Int32)) (upk J N zJ) (stq (upk Q N zQ) h0 0 N))
set_option maxHeartbeats 4000000 in
set_option maxRecDepth 100000 in
theorem met_X6_init {A : Nat → Prop} {D : va_G} {D2 : Nat → ClassId} {ad : Nat → Nat} {base N : Nat} {T : Nat → Nat × Nat} (l : Launch) {I : KI} {J : KJ} {Q : KQ} {h0 : Nat} {post : KI → KJ → KQ → Prop} (hAd : ∀ k, ad k = base + k) (z0 : OKr (fun _ => True) N T h0 (6, 0)) (hw : wp_X6_init I J Q T N h0 post) : Met l yX6_init (.code yX6_init cX6_init 1 none :: BIG) ({ frames := 1, cells := 1, slots := 24, locals := 24 }) (PrC D D2 A ad base N T I J Q [.ref (ad h0)]) (va_Qv (fun (u : KS) => post u.1 u.2.1 u.2.2) (BwC D D2 ad (N + 1) T A) A) 1 24 A := by
  refine Met_GC (lv0 := [(0, .ref (ad h0))]) (by decide +kernel) rfl [.ref (ad h0)] (Nat.le_of_ble_eq_true rfl) rfl ?_
  intro p e s m below meth c C hr hin2 hCe
  have C : CX p s m [.ref (ad h0)].toArray meth c cX6_init 1 RX6 A D D2 := C
  unfold wp_X6_init at hw
  refine g_aload_n C dX6_init_0 rfl 0 rfl ?_
  refine g_objInit C dX6_init_1 ft_552 (by decide) (by decide) ?_
  refine g_aload_n C dX6_init_4 rfl 0 rfl ?_
  refine g_bipush (v := (24 : Int32)) C dX6_init_5 (by decide) ?_
  refine g_newa C 3 (ty := .long) dX6_init_7 rfl ft_538 rfl hw.1 (fun _ => rfl) (by decide) (fun _ h => h) (by decide) rfl (by decide) hAd (by omega) (by omega) (by decide) (by decide) ?_
  have zz1 : OKr (fun _ => True) (N + 1) T N (23, 24) := ⟨trivial, by omega, hw.1⟩
  have hw := hw.2
  refine g_putQ C dX6_init_9 hin2 ft_553 ⟨rfl, rfl⟩ (okr_up z0 (by omega)) ?_
  refine g_aload_n C dX6_init_12 rfl 0 rfl ?_
  refine g_iconst (v := (-1 : Int32)) C dX6_init_13 (by decide) ?_
  refine g_putI C dX6_init_14 ft_174 (okr_up z0 (by omega)) ?_
  exact g_cret C dX6_init_17 hr hw rfl rfl rfl
def wp_X8_init (I : KI) (J : KJ) (Q : KQ) (T : Nat → Nat × Nat) (N h0 : Nat) (post : KI → KJ → KQ → Prop) : Prop := (T N = (22, 90) ∧ (T (N + 1) = (4, 0) ∧ wp_X4_init (upk (upk I N zI) (N + 1) zI) (upk (upk J N zJ) (N + 1) zJ) (upk (stq (upk Q N zQ) h0 0 N) (N + 1) zQ) T (N + 2) (N + 1) (fun I3 J3 Q3 => post I3 J3 (stq Q3 h0 1 (N + 1)))))
set_option maxHeartbeats 4000000 in
set_option maxRecDepth 100000 in
theorem met_X8_init {A : Nat → Prop} {D : va_G} {D2 : Nat → ClassId} {ad : Nat → Nat} {base N : Nat} {T : Nat → Nat × Nat} (l : Launch) {I : KI} {J : KJ} {Q : KQ} {h0 : Nat} {post : KI → KJ → KQ → Prop} (hAd : ∀ k, ad k = base + k) (z0 : OKr (fun _ => True) N T h0 (8, 0)) (hw : wp_X8_init I J Q T N h0 post) : Met l yX8_init (.code yX8_init cX8_init 1 none :: BIG) ({ frames := 2, cells := 3, slots := 140, locals := 44 }) (PrC D D2 A ad base N T I J Q [.ref (ad h0)]) (va_Qv (fun (u : KS) => post u.1 u.2.1 u.2.2) (BwC D D2 ad (N + 3) T A) A) 3 140 A := by
  refine Met_GC (lv0 := [(0, .ref (ad h0))]) (by decide +kernel) rfl [.ref (ad h0)] (Nat.le_of_ble_eq_true rfl) rfl ?_
  intro p e s m below meth c C hr hin2 hCe
  have C : CX p s m [.ref (ad h0)].toArray meth c cX8_init 1 RX8 A D D2 := C
  unfold wp_X8_init at hw
  refine g_aload_n C dX8_init_0 rfl 0 rfl ?_
  refine g_objInit C dX8_init_1 ft_554 (by decide) (by decide) ?_
  refine g_aload_n C dX8_init_4 rfl 0 rfl ?_
  refine g_bipush (v := (90 : Int32)) C dX8_init_5 (by decide) ?_
  refine g_newa C 2 (ty := .char) dX8_init_7 rfl ft_555 rfl hw.1 (fun _ => rfl) (by decide) (fun _ h => h) (by decide) rfl (by decide) hAd (by omega) (by omega) (by decide) (by decide) ?_
  have zz1 : OKr (fun _ => True) (N + 1) T N (22, 90) := ⟨trivial, by omega, hw.1⟩
  have hw := hw.2
  refine g_putQ C dX8_init_9 hin2 ft_556 ⟨rfl, rfl⟩ (okr_up z0 (by omega)) ?_
  refine g_aload_n C dX8_init_12 rfl 0 rfl ?_
  refine g_new C dX8_init_13 ft_557 hw.1 hAd (by omega) (by omega) (by decide) (by decide) ?_
  have zz2 : OKr (fun _ => True) (N + 2) T (N + 1) (4, 0) := ⟨trivial, by omega, hw.1⟩
  have hw := hw.2
  refine g_dup C dX8_init_16 rfl ?_
  refine g_callI C dX8_init_17 ft_559 ft_536 (met_X4_init l hAd (okr_up zz2 (by omega)) hw) ⟨rfl, rfl, Nat.le_of_ble_eq_true rfl, Nat.le_of_ble_eq_true rfl⟩ ⟨Nat.le_of_ble_eq_true rfl, Nat.le_of_ble_eq_true rfl⟩ (Nat.le_of_ble_eq_true rfl) hAd (by omega) (by omega) (fun I3 J3 Q3 hw => ?_)
  refine g_putQ C dX8_init_20 hin2 ft_558 ⟨rfl, rfl⟩ (okr_up z0 (by omega)) ?_
  exact g_cret C dX8_init_23 hr hw rfl rfl rfl
def wp_X9_init (I : KI) (J : KJ) (Q : KQ) (T : Nat → Nat × Nat) (N h0 : Nat) (post : KI → KJ → KQ → Prop) : Prop := (T N = (20, 6) ∧ (T (N + 1) = (20, 6) ∧ post (upk (upk I N zI) (N + 1) zI) (upk (upk J N zJ) (N + 1) zJ) (stq (upk (stq (upk Q N zQ) h0 0 N) (N + 1) zQ) h0 1 (N + 1))))
set_option maxHeartbeats 4000000 in
set_option maxRecDepth 100000 in
theorem met_X9_init {A : Nat → Prop} {D : va_G} {D2 : Nat → ClassId} {ad : Nat → Nat} {base N : Nat} {T : Nat → Nat × Nat} (l : Launch) {I : KI} {J : KJ} {Q : KQ} {h0 : Nat} {post : KI → KJ → KQ → Prop} (hAd : ∀ k, ad k = base + k) (z0 : OKr (fun _ => True) N T h0 (9, 0)) (hw : wp_X9_init I J Q T N h0 post) : Met l yX9_init (.code yX9_init cX9_init 1 none :: BIG) ({ frames := 1, cells := 2, slots := 12, locals := 24 }) (PrC D D2 A ad base N T I J Q [.ref (ad h0)]) (va_Qv (fun (u : KS) => post u.1 u.2.1 u.2.2) (BwC D D2 ad (N + 2) T A) A) 2 12 A := by
  refine Met_GC (lv0 := [(0, .ref (ad h0))]) (by decide +kernel) rfl [.ref (ad h0)] (Nat.le_of_ble_eq_true rfl) rfl ?_
  intro p e s m below meth c C hr hin2 hCe
  have C : CX p s m [.ref (ad h0)].toArray meth c cX9_init 1 RX9 A D D2 := C
  unfold wp_X9_init at hw
  refine g_aload_n C dX9_init_0 rfl 0 rfl ?_
  refine g_objInit C dX9_init_1 ft_560 (by decide) (by decide) ?_
  refine g_aload_n C dX9_init_4 rfl 0 rfl ?_
  refine g_bipush (v := (6 : Int32)) C dX9_init_5 (by decide) ?_
  refine g_newa C 0 (ty := .int) dX9_init_7 rfl ft_518 rfl hw.1 (fun _ => rfl) (by decide) (fun _ h => h) (by decide) rfl (by decide) hAd (by omega) (by omega) (by decide) (by decide) ?_
  have zz1 : OKr (fun _ => True) (N + 1) T N (20, 6) := ⟨trivial, by omega, hw.1⟩
  have hw := hw.2
  refine g_putQ C dX9_init_9 hin2 ft_561 ⟨rfl, rfl⟩ (okr_up z0 (by omega)) ?_
  refine g_aload_n C dX9_init_12 rfl 0 rfl ?_
  refine g_bipush (v := (6 : Int32)) C dX9_init_13 (by decide) ?_
  refine g_newa C 0 (ty := .int) dX9_init_15 rfl ft_518 rfl hw.1 (fun _ => rfl) (by decide) (fun _ h => h) (by decide) rfl (by decide) hAd (by omega) (by omega) (by decide) (by decide) ?_
  have zz2 : OKr (fun _ => True) (N + 2) T (N + 1) (20, 6) := ⟨trivial, by omega, hw.1⟩
  have hw := hw.2
  refine g_putQ C dX9_init_17 hin2 ft_562 ⟨rfl, rfl⟩ (okr_up z0 (by omega)) ?_
  exact g_cret C dX9_init_20 hr hw rfl rfl rfl
def wp_X10_init (I : KI) (J : KJ) (Q : KQ) (T : Nat → Nat × Nat) (N h0 : Nat) (post : KI → KJ → KQ → Prop) : Prop := (T N = (1, 0) ∧ wp_X1_init (upk I N zI) (upk J N zJ) (upk Q N zQ) T (N + 1) N (fun I2 J2 Q2 => (T (N + 17) = (3, 0) ∧ wp_X3_init (upk I2 (N + 17) zI) (upk J2 (N + 17) zJ) (upk (stq Q2 h0 0 N) (N + 17) zQ) T (N + 18) (N + 17) (fun I4 J4 Q4 => (T (N + 121) = (1, 0) ∧ wp_X1_init (upk I4 (N + 121) zI) (upk J4 (N + 121) zJ) (upk (stq Q4 h0 1 (N + 17)) (N + 121) zQ) T (N + 122) (N + 121) (fun I6 J6 Q6 => (T (N + 138) = (3, 0) ∧ wp_X3_init (upk I6 (N + 138) zI) (upk J6 (N + 138) zJ) (upk (stq Q6 h0 2 (N + 121)) (N + 138) zQ) T (N + 139) (N + 138) (fun I8 J8 Q8 => (T (N + 242) = (1, 0) ∧ wp_X1_init (upk I8 (N + 242) zI) (upk J8 (N + 242) zJ) (upk (stq Q8 h0 3 (N + 138)) (N + 242) zQ) T (N + 243) (N + 242) (fun I10 J10 Q10 => (T (N + 259) = (5, 0) ∧ wp_X5_init (upk I10 (N + 259) zI) (upk J10 (N + 259) zJ) (upk (stq Q10 h0 4 (N + 242)) (N + 259) zQ) T (N + 260) (N + 259) (fun I12 J12 Q12 => (T (N + 264) = (0, 0) ∧ wp_X0_init (upk I12 (N + 264) zI) (upk J12 (N + 264) zJ) (upk (stq Q12 h0 5 (N + 259)) (N + 264) zQ) T (N + 265) (N + 264) (fun I14 J14 Q14 => (T (N + 268) = (9, 0) ∧ wp_X9_init (upk I14 (N + 268) zI) (upk J14 (N + 268) zJ) (upk (stq Q14 h0 6 (N + 264)) (N + 268) zQ) T (N + 269) (N + 268) (fun I16 J16 Q16 => (T (N + 271) = (2, 0) ∧ wp_X2_init (upk I16 (N + 271) zI) (upk J16 (N + 271) zJ) (upk (stq Q16 h0 7 (N + 268)) (N + 271) zQ) T (N + 272) (N + 271) (fun I18 J18 Q18 => (T (N + 273) = (8, 0) ∧ wp_X8_init (upk I18 (N + 273) zI) (upk J18 (N + 273) zJ) (upk (stq Q18 h0 8 (N + 271)) (N + 273) zQ) T (N + 274) (N + 273) (fun I20 J20 Q20 => (T (N + 277) = (26, 4) ∧ ((stq (upk (stq Q20 h0 9 (N + 273)) (N + 277) zQ) h0 10 (N + 277)) h0 10 = some (N + 277) ∧ (T (N + 278) = (6, 0) ∧ wp_X6_init (upk (upk I20 (N + 277) zI) (N + 278) zI) (upk (upk J20 (N + 277) zJ) (N + 278) zJ) (upk (stq (upk (stq Q20 h0 9 (N + 273)) (N + 277) zQ) h0 10 (N + 277)) (N + 278) zQ) T (N + 279) (N + 278) (fun I24 J24 Q24 => ((stq Q24 (N + 277) (0 : Int32).toNatClampNeg (N + 278)) h0 10 = some (N + 277) ∧ (T (N + 280) = (6, 0) ∧ wp_X6_init (upk I24 (N + 280) zI) (upk J24 (N + 280) zJ) (upk (stq Q24 (N + 277) (0 : Int32).toNatClampNeg (N + 278)) (N + 280) zQ) T (N + 281) (N + 280) (fun I27 J27 Q27 => ((stq Q27 (N + 277) (1 : Int32).toNatClampNeg (N + 280)) h0 10 = some (N + 277) ∧ (T (N + 282) = (6, 0) ∧ wp_X6_init (upk I27 (N + 282) zI) (upk J27 (N + 282) zJ) (upk (stq Q27 (N + 277) (1 : Int32).toNatClampNeg (N + 280)) (N + 282) zQ) T (N + 283) (N + 282) (fun I30 J30 Q30 => ((stq Q30 (N + 277) (2 : Int32).toNatClampNeg (N + 282)) h0 10 = some (N + 277) ∧ (T (N + 284) = (6, 0) ∧ wp_X6_init (upk I30 (N + 284) zI) (upk J30 (N + 284) zJ) (upk (stq Q30 (N + 277) (2 : Int32).toNatClampNeg (N + 282)) (N + 284) zQ) T (N + 285) (N + 284) (fun I33 J33 Q33 => post I33 J33 (stq Q33 (N + 277) (3 : Int32).toNatClampNeg (N + 284)))))))))))))))))))))))))))))))))))
set_option maxHeartbeats 4000000 in
set_option maxRecDepth 100000 in
theorem met_X10_init {A : Nat → Prop} {D : va_G} {D2 : Nat → ClassId} {ad : Nat → Nat} {base N : Nat} {T : Nat → Nat × Nat} (l : Launch) {I : KI} {J : KJ} {Q : KQ} {h0 : Nat} {post : KI → KJ → KQ → Prop} (hAd : ∀ k, ad k = base + k) (z0 : OKr (fun _ => True) N T h0 (10, 0)) (hw : wp_X10_init I J Q T N h0 post) : Met l yX10_init (.code yX10_init cX10_init 2 none :: BIG) ({ frames := 5, cells := 286, slots := 2695, locals := 112 }) (PrC D D2 A ad base N T I J Q [.ref (ad h0)]) (va_Qv (fun (u : KS) => post u.1 u.2.1 u.2.2) (BwC D D2 ad (N + 286) T A) A) 286 2695 A := by
  refine Met_GC (lv0 := [(0, .ref (ad h0))]) (by decide +kernel) rfl [.ref (ad h0)] (Nat.le_of_ble_eq_true rfl) rfl ?_
  intro p e s m below meth c C hr hin2 hCe
  have C : CX p s m [.ref (ad h0)].toArray meth c cX10_init 2 RX10 A D D2 := C
  unfold wp_X10_init at hw
  refine g_aload_n C dX10_init_0 rfl 0 rfl ?_
  refine g_objInit C dX10_init_1 ft_563 (by decide) (by decide) ?_
  refine g_aload_n C dX10_init_4 rfl 0 rfl ?_
  refine g_new C dX10_init_5 ft_564 hw.1 hAd (by omega) (by omega) (by decide) (by decide) ?_
  have zz1 : OKr (fun _ => True) (N + 1) T N (1, 0) := ⟨trivial, by omega, hw.1⟩
  have hw := hw.2
  refine g_dup C dX10_init_8 rfl ?_
  refine g_callI C dX10_init_9 ft_596 ft_545 (met_X1_init l hAd (okr_up zz1 (by omega)) hw) ⟨rfl, rfl, Nat.le_of_ble_eq_true rfl, Nat.le_of_ble_eq_true rfl⟩ ⟨Nat.le_of_ble_eq_true rfl, Nat.le_of_ble_eq_true rfl⟩ (Nat.le_of_ble_eq_true rfl) hAd (by omega) (by omega) (fun I2 J2 Q2 hw => ?_)
  refine g_putQ C dX10_init_12 hin2 ft_565 ⟨rfl, rfl⟩ (okr_up z0 (by omega)) ?_
  refine g_aload_n C dX10_init_15 rfl 0 rfl ?_
  refine g_new C dX10_init_16 ft_566 hw.1 hAd (by omega) (by omega) (by decide) (by decide) ?_
  have zz3 : OKr (fun _ => True) (N + 18) T (N + 17) (3, 0) := ⟨trivial, by omega, hw.1⟩
  have hw := hw.2
  refine g_dup C dX10_init_19 rfl ?_
  refine g_callI C dX10_init_20 ft_597 ft_598 (met_X3_init l hAd (okr_up zz3 (by omega)) hw) ⟨rfl, rfl, Nat.le_of_ble_eq_true rfl, Nat.le_of_ble_eq_true rfl⟩ ⟨Nat.le_of_ble_eq_true rfl, Nat.le_of_ble_eq_true rfl⟩ (Nat.le_of_ble_eq_true rfl) hAd (by omega) (by omega) (fun I4 J4 Q4 hw => ?_)
  refine g_putQ C dX10_init_23 hin2 ft_567 ⟨rfl, rfl⟩ (okr_up z0 (by omega)) ?_
  refine g_aload_n C dX10_init_26 rfl 0 rfl ?_
  refine g_new C dX10_init_27 ft_564 hw.1 hAd (by omega) (by omega) (by decide) (by decide) ?_
  have zz5 : OKr (fun _ => True) (N + 122) T (N + 121) (1, 0) := ⟨trivial, by omega, hw.1⟩
  have hw := hw.2
  refine g_dup C dX10_init_30 rfl ?_
  refine g_callI C dX10_init_31 ft_596 ft_545 (met_X1_init l hAd (okr_up zz5 (by omega)) hw) ⟨rfl, rfl, Nat.le_of_ble_eq_true rfl, Nat.le_of_ble_eq_true rfl⟩ ⟨Nat.le_of_ble_eq_true rfl, Nat.le_of_ble_eq_true rfl⟩ (Nat.le_of_ble_eq_true rfl) hAd (by omega) (by omega) (fun I6 J6 Q6 hw => ?_)
  refine g_putQ C dX10_init_34 hin2 ft_568 ⟨rfl, rfl⟩ (okr_up z0 (by omega)) ?_
  refine g_aload_n C dX10_init_37 rfl 0 rfl ?_
  refine g_new C dX10_init_38 ft_566 hw.1 hAd (by omega) (by omega) (by decide) (by decide) ?_
  have zz7 : OKr (fun _ => True) (N + 139) T (N + 138) (3, 0) := ⟨trivial, by omega, hw.1⟩
  have hw := hw.2
  refine g_dup C dX10_init_41 rfl ?_
  refine g_callI C dX10_init_42 ft_597 ft_598 (met_X3_init l hAd (okr_up zz7 (by omega)) hw) ⟨rfl, rfl, Nat.le_of_ble_eq_true rfl, Nat.le_of_ble_eq_true rfl⟩ ⟨Nat.le_of_ble_eq_true rfl, Nat.le_of_ble_eq_true rfl⟩ (Nat.le_of_ble_eq_true rfl) hAd (by omega) (by omega) (fun I8 J8 Q8 hw => ?_)
  refine g_putQ C dX10_init_45 hin2 ft_569 ⟨rfl, rfl⟩ (okr_up z0 (by omega)) ?_
  refine g_aload_n C dX10_init_48 rfl 0 rfl ?_
  refine g_new C dX10_init_49 ft_564 hw.1 hAd (by omega) (by omega) (by decide) (by decide) ?_
  have zz9 : OKr (fun _ => True) (N + 243) T (N + 242) (1, 0) := ⟨trivial, by omega, hw.1⟩
  have hw := hw.2
  refine g_dup C dX10_init_52 rfl ?_
  refine g_callI C dX10_init_53 ft_596 ft_545 (met_X1_init l hAd (okr_up zz9 (by omega)) hw) ⟨rfl, rfl, Nat.le_of_ble_eq_true rfl, Nat.le_of_ble_eq_true rfl⟩ ⟨Nat.le_of_ble_eq_true rfl, Nat.le_of_ble_eq_true rfl⟩ (Nat.le_of_ble_eq_true rfl) hAd (by omega) (by omega) (fun I10 J10 Q10 hw => ?_)
  refine g_putQ C dX10_init_56 hin2 ft_570 ⟨rfl, rfl⟩ (okr_up z0 (by omega)) ?_
  refine g_aload_n C dX10_init_59 rfl 0 rfl ?_
  refine g_new C dX10_init_60 ft_571 hw.1 hAd (by omega) (by omega) (by decide) (by decide) ?_
  have zz11 : OKr (fun _ => True) (N + 260) T (N + 259) (5, 0) := ⟨trivial, by omega, hw.1⟩
  have hw := hw.2
  refine g_dup C dX10_init_63 rfl ?_
  refine g_callI C dX10_init_64 ft_594 ft_595 (met_X5_init l hAd (okr_up zz11 (by omega)) hw) ⟨rfl, rfl, Nat.le_of_ble_eq_true rfl, Nat.le_of_ble_eq_true rfl⟩ ⟨Nat.le_of_ble_eq_true rfl, Nat.le_of_ble_eq_true rfl⟩ (Nat.le_of_ble_eq_true rfl) hAd (by omega) (by omega) (fun I12 J12 Q12 hw => ?_)
  refine g_putQ C dX10_init_67 hin2 ft_572 ⟨rfl, rfl⟩ (okr_up z0 (by omega)) ?_
  refine g_aload_n C dX10_init_70 rfl 0 rfl ?_
  refine g_new C dX10_init_71 ft_573 hw.1 hAd (by omega) (by omega) (by decide) (by decide) ?_
  have zz13 : OKr (fun _ => True) (N + 265) T (N + 264) (0, 0) := ⟨trivial, by omega, hw.1⟩
  have hw := hw.2
  refine g_dup C dX10_init_74 rfl ?_
  refine g_callI C dX10_init_75 ft_592 ft_593 (met_X0_init l hAd (okr_up zz13 (by omega)) hw) ⟨rfl, rfl, Nat.le_of_ble_eq_true rfl, Nat.le_of_ble_eq_true rfl⟩ ⟨Nat.le_of_ble_eq_true rfl, Nat.le_of_ble_eq_true rfl⟩ (Nat.le_of_ble_eq_true rfl) hAd (by omega) (by omega) (fun I14 J14 Q14 hw => ?_)
  refine g_putQ C dX10_init_78 hin2 ft_574 ⟨rfl, rfl⟩ (okr_up z0 (by omega)) ?_
  refine g_aload_n C dX10_init_81 rfl 0 rfl ?_
  refine g_new C dX10_init_82 ft_575 hw.1 hAd (by omega) (by omega) (by decide) (by decide) ?_
  have zz15 : OKr (fun _ => True) (N + 269) T (N + 268) (9, 0) := ⟨trivial, by omega, hw.1⟩
  have hw := hw.2
  refine g_dup C dX10_init_85 rfl ?_
  refine g_callI C dX10_init_86 ft_590 ft_591 (met_X9_init l hAd (okr_up zz15 (by omega)) hw) ⟨rfl, rfl, Nat.le_of_ble_eq_true rfl, Nat.le_of_ble_eq_true rfl⟩ ⟨Nat.le_of_ble_eq_true rfl, Nat.le_of_ble_eq_true rfl⟩ (Nat.le_of_ble_eq_true rfl) hAd (by omega) (by omega) (fun I16 J16 Q16 hw => ?_)
  refine g_putQ C dX10_init_89 hin2 ft_576 ⟨rfl, rfl⟩ (okr_up z0 (by omega)) ?_
  refine g_aload_n C dX10_init_92 rfl 0 rfl ?_
  refine g_new C dX10_init_93 ft_577 hw.1 hAd (by omega) (by omega) (by decide) (by decide) ?_
  have zz17 : OKr (fun _ => True) (N + 272) T (N + 271) (2, 0) := ⟨trivial, by omega, hw.1⟩
  have hw := hw.2
  refine g_dup C dX10_init_96 rfl ?_
  refine g_callI C dX10_init_97 ft_588 ft_589 (met_X2_init l hAd (okr_up zz17 (by omega)) hw) ⟨rfl, rfl, Nat.le_of_ble_eq_true rfl, Nat.le_of_ble_eq_true rfl⟩ ⟨Nat.le_of_ble_eq_true rfl, Nat.le_of_ble_eq_true rfl⟩ (Nat.le_of_ble_eq_true rfl) hAd (by omega) (by omega) (fun I18 J18 Q18 hw => ?_)
  refine g_putQ C dX10_init_100 hin2 ft_578 ⟨rfl, rfl⟩ (okr_up z0 (by omega)) ?_
  refine g_aload_n C dX10_init_103 rfl 0 rfl ?_
  refine g_new C dX10_init_104 ft_579 hw.1 hAd (by omega) (by omega) (by decide) (by decide) ?_
  have zz19 : OKr (fun _ => True) (N + 274) T (N + 273) (8, 0) := ⟨trivial, by omega, hw.1⟩
  have hw := hw.2
  refine g_dup C dX10_init_107 rfl ?_
  refine g_callI C dX10_init_108 ft_586 ft_587 (met_X8_init l hAd (okr_up zz19 (by omega)) hw) ⟨rfl, rfl, Nat.le_of_ble_eq_true rfl, Nat.le_of_ble_eq_true rfl⟩ ⟨Nat.le_of_ble_eq_true rfl, Nat.le_of_ble_eq_true rfl⟩ (Nat.le_of_ble_eq_true rfl) hAd (by omega) (by omega) (fun I20 J20 Q20 hw => ?_)
  refine g_putQ C dX10_init_111 hin2 ft_580 ⟨rfl, rfl⟩ (okr_up z0 (by omega)) ?_
  refine g_aload_n C dX10_init_114 rfl 0 rfl ?_
  refine g_iconst (v := (4 : Int32)) C dX10_init_115 (by decide) ?_
  refine g_newq C 6 dX10_init_116 ft_581 rfl hw.1 (by decide) (by decide) rfl (by decide) hAd (by omega) (by omega) (by decide) (by decide) ?_
  have zz21 : OKr (fun _ => True) (N + 278) T (N + 277) (26, 4) := ⟨trivial, by omega, hw.1⟩
  have hw := hw.2
  refine g_putQ C dX10_init_119 hin2 ft_582 ⟨rfl, rfl⟩ (okr_up z0 (by omega)) ?_
  refine g_iconst (v := (0 : Int32)) C dX10_init_122 (by decide) ?_
  refine g_istore_n (lv' := [(1, .int (0 : Int32)), (0, .ref (ad h0))]) C dX10_init_123 rfl (by decide) rfl ?_
  refine g_iload_n C dX10_init_124 rfl 0 rfl ?_
  refine g_iconst (v := (4 : Int32)) C dX10_init_125 (by decide) ?_
  refine g_icmp_ge (tgt := 148) C dX10_init_126 (by decide) (fun c22 => absurd c22 (by decide)) (fun _ => ?_)
  refine g_aload_n C dX10_init_129 rfl 1 rfl ?_
  refine g_getQv C dX10_init_130 ft_339 (okr_up z0 (by omega)) hw.1 ?_
  have hw := hw.2
  refine g_iload_n C dX10_init_133 rfl 0 rfl ?_
  refine g_new C dX10_init_134 ft_583 hw.1 hAd (by omega) (by omega) (by decide) (by decide) ?_
  have zz23 : OKr (fun _ => True) (N + 279) T (N + 278) (6, 0) := ⟨trivial, by omega, hw.1⟩
  have hw := hw.2
  refine g_dup C dX10_init_137 rfl ?_
  refine g_callI C dX10_init_138 ft_584 ft_585 (met_X6_init l hAd (okr_up zz23 (by omega)) hw) ⟨rfl, rfl, Nat.le_of_ble_eq_true rfl, Nat.le_of_ble_eq_true rfl⟩ ⟨Nat.le_of_ble_eq_true rfl, Nat.le_of_ble_eq_true rfl⟩ (Nat.le_of_ble_eq_true rfl) hAd (by omega) (by omega) (fun I24 J24 Q24 hw => ?_)
  refine g_aastR C dX10_init_141 (okr_up zz21 (by omega)) (okr_up zz23 (by omega)) (vp_lit (by decide +kernel)) ?_
  refine g_iinc (v := (1 : Int32)) (lv' := [(1, .int (1 : Int32)), (0, .ref (ad h0))]) C dX10_init_142 (q := 0) rfl (by decide) (by decide) rfl ?_
  refine g_goto C dX10_init_145 (tgt := 124) (by decide) ?_
  refine g_iload_n C dX10_init_124 rfl 0 rfl ?_
  refine g_iconst (v := (4 : Int32)) C dX10_init_125 (by decide) ?_
  refine g_icmp_ge (tgt := 148) C dX10_init_126 (by decide) (fun c25 => absurd c25 (by decide)) (fun _ => ?_)
  refine g_aload_n C dX10_init_129 rfl 1 rfl ?_
  refine g_getQv C dX10_init_130 ft_339 (okr_up z0 (by omega)) hw.1 ?_
  have hw := hw.2
  refine g_iload_n C dX10_init_133 rfl 0 rfl ?_
  refine g_new C dX10_init_134 ft_583 hw.1 hAd (by omega) (by omega) (by decide) (by decide) ?_
  have zz26 : OKr (fun _ => True) (N + 281) T (N + 280) (6, 0) := ⟨trivial, by omega, hw.1⟩
  have hw := hw.2
  refine g_dup C dX10_init_137 rfl ?_
  refine g_callI C dX10_init_138 ft_584 ft_585 (met_X6_init l hAd (okr_up zz26 (by omega)) hw) ⟨rfl, rfl, Nat.le_of_ble_eq_true rfl, Nat.le_of_ble_eq_true rfl⟩ ⟨Nat.le_of_ble_eq_true rfl, Nat.le_of_ble_eq_true rfl⟩ (Nat.le_of_ble_eq_true rfl) hAd (by omega) (by omega) (fun I27 J27 Q27 hw => ?_)
  refine g_aastR C dX10_init_141 (okr_up zz21 (by omega)) (okr_up zz26 (by omega)) (vp_lit (by decide +kernel)) ?_
  refine g_iinc (v := (2 : Int32)) (lv' := [(1, .int (2 : Int32)), (0, .ref (ad h0))]) C dX10_init_142 (q := 0) rfl (by decide) (by decide) rfl ?_
  refine g_goto C dX10_init_145 (tgt := 124) (by decide) ?_
  refine g_iload_n C dX10_init_124 rfl 0 rfl ?_
  refine g_iconst (v := (4 : Int32)) C dX10_init_125 (by decide) ?_
  refine g_icmp_ge (tgt := 148) C dX10_init_126 (by decide) (fun c28 => absurd c28 (by decide)) (fun _ => ?_)
  refine g_aload_n C dX10_init_129 rfl 1 rfl ?_
  refine g_getQv C dX10_init_130 ft_339 (okr_up z0 (by omega)) hw.1 ?_
  have hw := hw.2
  refine g_iload_n C dX10_init_133 rfl 0 rfl ?_
  refine g_new C dX10_init_134 ft_583 hw.1 hAd (by omega) (by omega) (by decide) (by decide) ?_
  have zz29 : OKr (fun _ => True) (N + 283) T (N + 282) (6, 0) := ⟨trivial, by omega, hw.1⟩
  have hw := hw.2
  refine g_dup C dX10_init_137 rfl ?_
  refine g_callI C dX10_init_138 ft_584 ft_585 (met_X6_init l hAd (okr_up zz29 (by omega)) hw) ⟨rfl, rfl, Nat.le_of_ble_eq_true rfl, Nat.le_of_ble_eq_true rfl⟩ ⟨Nat.le_of_ble_eq_true rfl, Nat.le_of_ble_eq_true rfl⟩ (Nat.le_of_ble_eq_true rfl) hAd (by omega) (by omega) (fun I30 J30 Q30 hw => ?_)
  refine g_aastR C dX10_init_141 (okr_up zz21 (by omega)) (okr_up zz29 (by omega)) (vp_lit (by decide +kernel)) ?_
  refine g_iinc (v := (3 : Int32)) (lv' := [(1, .int (3 : Int32)), (0, .ref (ad h0))]) C dX10_init_142 (q := 0) rfl (by decide) (by decide) rfl ?_
  refine g_goto C dX10_init_145 (tgt := 124) (by decide) ?_
  refine g_iload_n C dX10_init_124 rfl 0 rfl ?_
  refine g_iconst (v := (4 : Int32)) C dX10_init_125 (by decide) ?_
  refine g_icmp_ge (tgt := 148) C dX10_init_126 (by decide) (fun c31 => absurd c31 (by decide)) (fun _ => ?_)
  refine g_aload_n C dX10_init_129 rfl 1 rfl ?_
  refine g_getQv C dX10_init_130 ft_339 (okr_up z0 (by omega)) hw.1 ?_
  have hw := hw.2
  refine g_iload_n C dX10_init_133 rfl 0 rfl ?_
  refine g_new C dX10_init_134 ft_583 hw.1 hAd (by omega) (by omega) (by decide) (by decide) ?_
  have zz32 : OKr (fun _ => True) (N + 285) T (N + 284) (6, 0) := ⟨trivial, by omega, hw.1⟩
  have hw := hw.2
  refine g_dup C dX10_init_137 rfl ?_
  refine g_callI C dX10_init_138 ft_584 ft_585 (met_X6_init l hAd (okr_up zz32 (by omega)) hw) ⟨rfl, rfl, Nat.le_of_ble_eq_true rfl, Nat.le_of_ble_eq_true rfl⟩ ⟨Nat.le_of_ble_eq_true rfl, Nat.le_of_ble_eq_true rfl⟩ (Nat.le_of_ble_eq_true rfl) hAd (by omega) (by omega) (fun I33 J33 Q33 hw => ?_)
  refine g_aastR C dX10_init_141 (okr_up zz21 (by omega)) (okr_up zz32 (by omega)) (vp_lit (by decide +kernel)) ?_
  refine g_iinc (v := (4 : Int32)) (lv' := [(1, .int (4 : Int32)), (0, .ref (ad h0))]) C dX10_init_142 (q := 0) rfl (by decide) (by decide) rfl ?_
  refine g_goto C dX10_init_145 (tgt := 124) (by decide) ?_
  refine g_iload_n C dX10_init_124 rfl 0 rfl ?_
  refine g_iconst (v := (4 : Int32)) C dX10_init_125 (by decide) ?_
  refine g_icmp_ge (tgt := 148) C dX10_init_126 (by decide) (fun _ => ?_) (fun c34 => absurd (by decide) c34)
  exact g_cret C dX10_init_148 hr hw rfl rfl rfl
def wp_X11_init (I : KI) (J : KJ) (Q : KQ) (T : Nat → Nat × Nat) (N h0 : Nat) (post : KI → KJ → KQ → Prop) : Prop := (T N = (20, 69) ∧ (T (N + 1) = (20, 414) ∧ (T (N + 2) = (20, 483) ∧ (T (N + 3) = (20, 69) ∧ (T (N + 4) = (21, 256) ∧ (T (N + 5) = (20, 6) ∧ (T (N + 6) = (20, 48) ∧ (T (N + 7) = (20, 8) ∧ (T (N + 8) = (20, 384) ∧ (T (N + 9) = (20, 6) ∧ (T (N + 10) = (20, 6) ∧ (T (N + 11) = (20, 90) ∧ (T (N + 12) = (20, 8) ∧ (T (N + 13) = (20, 4) ∧ (T (N + 14) = (20, 4) ∧ (T (N + 15) = (23, 96) ∧ ((stq (upk (stq (upk (stq (upk (stq (upk (stq (upk (stq (upk (stq (upk (stq (upk (stq (upk (stq (upk (stq (upk (stq (upk (stq (upk (stq (upk (stq (upk (stq (upk Q N zQ) h0 0 N) (N + 1) zQ) h0 3 (N + 1)) (N + 2) zQ) h0 7 (N + 2)) (N + 3) zQ) h0 8 (N + 3)) (N + 4) zQ) h0 9 (N + 4)) (N + 5) zQ) h0 10 (N + 5)) (N + 6) zQ) h0 11 (N + 6)) (N + 7) zQ) h0 13 (N + 7)) (N + 8) zQ) h0 14 (N + 8)) (N + 9) zQ) h0 15 (N + 9)) (N + 10) zQ) h0 16 (N + 10)) (N + 11) zQ) h0 19 (N + 11)) (N + 12) zQ) h0 23 (N + 12)) (N + 13) zQ) h0 24 (N + 13)) (N + 14) zQ) h0 25 (N + 14)) (N + 15) zQ) h0 26 (N + 15)) h0 0 = some N ∧ ((stq (upk (stq (upk (stq (upk (stq (upk (stq (upk (stq (upk (stq (upk (stq (upk (stq (upk (stq (upk (stq (upk (stq (upk (stq (upk (stq (upk (stq (upk (stq (upk Q N zQ) h0 0 N) (N + 1) zQ) h0 3 (N + 1)) (N + 2) zQ) h0 7 (N + 2)) (N + 3) zQ) h0 8 (N + 3)) (N + 4) zQ) h0 9 (N + 4)) (N + 5) zQ) h0 10 (N + 5)) (N + 6) zQ) h0 11 (N + 6)) (N + 7) zQ) h0 13 (N + 7)) (N + 8) zQ) h0 14 (N + 8)) (N + 9) zQ) h0 15 (N + 9)) (N + 10) zQ) h0 16 (N + 10)) (N + 11) zQ) h0 19 (N + 11)) (N + 12) zQ) h0 23 (N + 12)) (N + 13) zQ) h0 24 (N + 13)) (N + 14) zQ) h0 25 (N + 14)) (N + 15) zQ) h0 26 (N + 15)) h0 0 = some N ∧ ((stq (upk (stq (upk (stq (upk (stq (upk (stq (upk (stq (upk (stq (upk (stq (upk (stq (upk (stq (upk (stq (upk (stq (upk (stq (upk (stq (upk (stq (upk (stq (upk Q N zQ) h0 0 N) (N + 1) zQ) h0 3 (N + 1)) (N + 2) zQ) h0 7 (N + 2)) (N + 3) zQ) h0 8 (N + 3)) (N + 4) zQ) h0 9 (N + 4)) (N + 5) zQ) h0 10 (N + 5)) (N + 6) zQ) h0 11 (N + 6)) (N + 7) zQ) h0 13 (N + 7)) (N + 8) zQ) h0 14 (N + 8)) (N + 9) zQ) h0 15 (N + 9)) (N + 10) zQ) h0 16 (N + 10)) (N + 11) zQ) h0 19 (N + 11)) (N + 12) zQ) h0 23 (N + 12)) (N + 13) zQ) h0 24 (N + 13)) (N + 14) zQ) h0 25 (N + 14)) (N + 15) zQ) h0 26 (N + 15)) h0 0 = some N ∧ ((stq (upk (stq (upk (stq (upk (stq (upk (stq (upk (stq (upk (stq (upk (stq (upk (stq (upk (stq (upk (stq (upk (stq (upk (stq (upk (stq (upk (stq (upk (stq (upk Q N zQ) h0 0 N) (N + 1) zQ) h0 3 (N + 1)) (N + 2) zQ) h0 7 (N + 2)) (N + 3) zQ) h0 8 (N + 3)) (N + 4) zQ) h0 9 (N + 4)) (N + 5) zQ) h0 10 (N + 5)) (N + 6) zQ) h0 11 (N + 6)) (N + 7) zQ) h0 13 (N + 7)) (N + 8) zQ) h0 14 (N + 8)) (N + 9) zQ) h0 15 (N + 9)) (N + 10) zQ) h0 16 (N + 10)) (N + 11) zQ) h0 19 (N + 11)) (N + 12) zQ) h0 23 (N + 12)) (N + 13) zQ) h0 24 (N + 13)) (N + 14) zQ) h0 25 (N + 14)) (N + 15) zQ) h0 26 (N + 15)) h0 0 = some N ∧ (∃ Z : Nat → Prop, WF Z (N + 16) T (stq (upk (stq (upk (stq (upk (stq (upk (stq (upk (stq (upk (stq (upk (stq (upk (stq (upk (stq (upk (stq (upk (stq (upk (stq (upk (stq (upk (stq (upk (stq (upk Q N zQ) h0 0 N) (N + 1) zQ) h0 3 (N + 1)) (N + 2) zQ) h0 7 (N + 2)) (N + 3) zQ) h0 8 (N + 3)) (N + 4) zQ) h0 9 (N + 4)) (N + 5) zQ) h0 10 (N + 5)) (N + 6) zQ) h0 11 (N + 6)) (N + 7) zQ) h0 13 (N + 7)) (N + 8) zQ) h0 14 (N + 8)) (N + 9) zQ) h0 15 (N + 9)) (N + 10) zQ) h0 16 (N + 10)) (N + 11) zQ) h0 19 (N + 11)) (N + 12) zQ) h0 23 (N + 12)) (N + 13) zQ) h0 24 (N + 13)) (N + 14) zQ) h0 25 (N + 14)) (N + 15) zQ) h0 26 (N + 15)) ∧ OKr Z (N + 16) T h0 (11, 0) ∧ wp_X11_laysPath (sti (sti (sti (sti (upk (sti (sti (sti (sti (upk (upk (upk (upk (upk (upk (upk (upk (upk (upk (upk (upk (upk (upk (upk I N zI) (N + 1) zI) (N + 2) zI) (N + 3) zI) (N + 4) zI) (N + 5) zI) (N + 6) zI) (N + 7) zI) (N + 8) zI) (N + 9) zI) (N + 10) zI) (N + 11) zI) (N + 12) zI) (N + 13) zI) (N + 14) zI) (N + 14) (0 : Int32).toNatClampNeg (-1 : Int32)) (N + 14) (1 : Int32).toNatClampNeg (-1 : Int32)) (N + 14) (2 : Int32).toNatClampNeg (-1 : Int32)) (N + 14) (3 : Int32).toNatClampNeg (-1 : Int32)) (N + 15) zI) N (0 : Int32).toNatClampNeg (4 : Int32)) N (1 : Int32).toNatClampNeg (4 : Int32)) N (3 : Int32).toNatClampNeg (1 : Int32)) N (5 : Int32).toNatClampNeg (1 : Int32)) (stq (upk (stq (upk (stq (upk (stq (upk (stq (upk (stq (upk (stq (upk (stq (upk (stq (upk (stq (upk (stq (upk (stq (upk (stq (upk (stq (upk (stq (upk (stq (upk Q N zQ) h0 0 N) (N + 1) zQ) h0 3 (N + 1)) (N + 2) zQ) h0 7 (N + 2)) (N + 3) zQ) h0 8 (N + 3)) (N + 4) zQ) h0 9 (N + 4)) (N + 5) zQ) h0 10 (N + 5)) (N + 6) zQ) h0 11 (N + 6)) (N + 7) zQ) h0 13 (N + 7)) (N + 8) zQ) h0 14 (N + 8)) (N + 9) zQ) h0 15 (N + 9)) (N + 10) zQ) h0 16 (N + 10)) (N + 11) zQ) h0 19 (N + 11)) (N + 12) zQ) h0 23 (N + 12)) (N + 13) zQ) h0 24 (N + 13)) (N + 14) zQ) h0 25 (N + 14)) (N + 15) zQ) h0 26 (N + 15)) h0 (fun I17 => (∃ Z : Nat → Prop, WF Z (N + 16) T (stq (upk (stq (upk (stq (upk (stq (upk (stq (upk (stq (upk (stq (upk (stq (upk (stq (upk (stq (upk (stq (upk (stq (upk (stq (upk (stq (upk (stq (upk (stq (upk Q N zQ) h0 0 N) (N + 1) zQ) h0 3 (N + 1)) (N + 2) zQ) h0 7 (N + 2)) (N + 3) zQ) h0 8 (N + 3)) (N + 4) zQ) h0 9 (N + 4)) (N + 5) zQ) h0 10 (N + 5)) (N + 6) zQ) h0 11 (N + 6)) (N + 7) zQ) h0 13 (N + 7)) (N + 8) zQ) h0 14 (N + 8)) (N + 9) zQ) h0 15 (N + 9)) (N + 10) zQ) h0 16 (N + 10)) (N + 11) zQ) h0 19 (N + 11)) (N + 12) zQ) h0 23 (N + 12)) (N + 13) zQ) h0 24 (N + 13)) (N + 14) zQ) h0 25 (N + 14)) (N + 15) zQ) h0 26 (N + 15)) ∧ OKr Z (N + 16) T h0 (11, 0) ∧ wp_X11_forgets I17 (stq (upk (stq (upk (stq (upk (stq (upk (stq (upk (stq (upk (stq (upk (stq (upk (stq (upk (stq (upk (stq (upk (stq (upk (stq (upk (stq (upk (stq (upk (stq (upk Q N zQ) h0 0 N) (N + 1) zQ) h0 3 (N + 1)) (N + 2) zQ) h0 7 (N + 2)) (N + 3) zQ) h0 8 (N + 3)) (N + 4) zQ) h0 9 (N + 4)) (N + 5) zQ) h0 10 (N + 5)) (N + 6) zQ) h0 11 (N + 6)) (N + 7) zQ) h0 13 (N + 7)) (N + 8) zQ) h0 14 (N + 8)) (N + 9) zQ) h0 15 (N + 9)) (N + 10) zQ) h0 16 (N + 10)) (N + 11) zQ) h0 19 (N + 11)) (N + 12) zQ) h0 23 (N + 12)) (N + 13) zQ) h0 24 (N + 13)) (N + 14) zQ) h0 25 (N + 14)) (N + 15) zQ) h0 26 (N + 15)) h0 (fun I18 => post I18 (upk (upk (upk (upk (upk (upk (upk (upk (upk (upk (upk (upk (upk (upk (upk (upk J N zJ) (N + 1) zJ) (N + 2) zJ) (N + 3) zJ) (N + 4) zJ) (N + 5) zJ) (N + 6) zJ) (N + 7) zJ) (N + 8) zJ) (N + 9) zJ) (N + 10) zJ) (N + 11) zJ) (N + 12) zJ) (N + 13) zJ) (N + 14) zJ) (N + 15) zJ) (stq (upk (stq (upk (stq (upk (stq (upk (stq (upk (stq (upk (stq (upk (stq (upk (stq (upk (stq (upk (stq (upk (stq (upk (stq (upk (stq (upk (stq (upk (stq (upk Q N zQ) h0 0 N) (N + 1) zQ) h0 3 (N + 1)) (N + 2) zQ) h0 7 (N + 2)) (N + 3) zQ) h0 8 (N + 3)) (N + 4) zQ) h0 9 (N + 4)) (N + 5) zQ) h0 10 (N + 5)) (N + 6) zQ) h0 11 (N + 6)) (N + 7) zQ) h0 13 (N + 7)) (N + 8) zQ) h0 14 (N + 8)) (N + 9) zQ) h0 15 (N + 9)) (N + 10) zQ) h0 16 (N + 10)) (N + 11) zQ) h0 19 (N + 11)) (N + 12) zQ) h0 23 (N + 12)) (N + 13) zQ) h0 24 (N + 13)) (N + 14) zQ) h0 25 (N + 14)) (N + 15) zQ) h0 26 (N + 15))))))))))))))))))))))))))
set_option maxHeartbeats 4000000 in
set_option maxRecDepth 100000 in
theorem met_X11_init {A : Nat → Prop} {D : va_G} {D2 : Nat → ClassId} {ad : Nat → Nat} {base N : Nat} {T : Nat → Nat × Nat} (l : Launch) {I : KI} {J : KJ} {Q : KQ} {h0 : Nat} {post : KI → KJ → KQ → Prop} (hAd : ∀ k, ad k = base + k) (z0 : OKr (fun _ => True) N T h0 (11, 0)) (hw : wp_X11_init I J Q T N h0 post) : Met l yX11_init (.code yX11_init cX11_init 1 none :: BIG) ({ frames := 2, cells := 16, slots := 1951, locals := 42 }) (PrC D D2 A ad base N T I J Q [.ref (ad h0)]) (va_Qv (fun (u : KS) => post u.1 u.2.1 u.2.2) (BwC D D2 ad (N + 16) T A) A) 16 1951 A := by
  refine Met_GC (lv0 := [(0, .ref (ad h0))]) (by decide +kernel) rfl [.ref (ad h0)] (Nat.le_of_ble_eq_true rfl) rfl ?_
  intro p e s m below meth c C hr hin2 hCe
  have C : CX p s m [.ref (ad h0)].toArray meth c cX11_init 1 RX11 A D D2 := C
  unfold wp_X11_init at hw
  refine g_aload_n C dX11_init_0 rfl 0 rfl ?_
  refine g_objInit C dX11_init_1 ft_599 (by decide) (by decide) ?_
  refine g_aload_n C dX11_init_4 rfl 0 rfl ?_
  refine g_bipush (v := (69 : Int32)) C dX11_init_5 (by decide) ?_
  refine g_newa C 0 (ty := .int) dX11_init_7 rfl ft_518 rfl hw.1 (fun _ => rfl) (by decide) (fun _ h => h) (by decide) rfl (by decide) hAd (by omega) (by omega) (by decide) (by decide) ?_
  have zz1 : OKr (fun _ => True) (N + 1) T N (20, 69) := ⟨trivial, by omega, hw.1⟩
  have hw := hw.2
  refine g_putQ C dX11_init_9 hin2 ft_600 ⟨rfl, rfl⟩ (okr_up z0 (by omega)) ?_
  refine g_aload_n C dX11_init_12 rfl 0 rfl ?_
  refine g_sipush (v := (414 : Int32)) C dX11_init_13 (by decide) ?_
  refine g_newa C 0 (ty := .int) dX11_init_16 rfl ft_518 rfl hw.1 (fun _ => rfl) (by decide) (fun _ h => h) (by decide) rfl (by decide) hAd (by omega) (by omega) (by decide) (by decide) ?_
  have zz2 : OKr (fun _ => True) (N + 2) T (N + 1) (20, 414) := ⟨trivial, by omega, hw.1⟩
  have hw := hw.2
  refine g_putQ C dX11_init_18 hin2 ft_601 ⟨rfl, rfl⟩ (okr_up z0 (by omega)) ?_
  refine g_aload_n C dX11_init_21 rfl 0 rfl ?_
  refine g_sipush (v := (483 : Int32)) C dX11_init_22 (by decide) ?_
  refine g_newa C 0 (ty := .int) dX11_init_25 rfl ft_518 rfl hw.1 (fun _ => rfl) (by decide) (fun _ h => h) (by decide) rfl (by decide) hAd (by omega) (by omega) (by decide) (by decide) ?_
  have zz3 : OKr (fun _ => True) (N + 3) T (N + 2) (20, 483) := ⟨trivial, by omega, hw.1⟩
  have hw := hw.2
  refine g_putQ C dX11_init_27 hin2 ft_602 ⟨rfl, rfl⟩ (okr_up z0 (by omega)) ?_
  refine g_aload_n C dX11_init_30 rfl 0 rfl ?_
  refine g_bipush (v := (69 : Int32)) C dX11_init_31 (by decide) ?_
  refine g_newa C 0 (ty := .int) dX11_init_33 rfl ft_518 rfl hw.1 (fun _ => rfl) (by decide) (fun _ h => h) (by decide) rfl (by decide) hAd (by omega) (by omega) (by decide) (by decide) ?_
  have zz4 : OKr (fun _ => True) (N + 4) T (N + 3) (20, 69) := ⟨trivial, by omega, hw.1⟩
  have hw := hw.2
  refine g_putQ C dX11_init_35 hin2 ft_603 ⟨rfl, rfl⟩ (okr_up z0 (by omega)) ?_
  refine g_aload_n C dX11_init_38 rfl 0 rfl ?_
  refine g_sipush (v := (256 : Int32)) C dX11_init_39 (by decide) ?_
  refine g_newa C 1 (ty := .boolean) dX11_init_42 rfl ft_604 rfl hw.1 (fun _ => rfl) (by decide) (fun _ h => h) (by decide) rfl (by decide) hAd (by omega) (by omega) (by decide) (by decide) ?_
  have zz5 : OKr (fun _ => True) (N + 5) T (N + 4) (21, 256) := ⟨trivial, by omega, hw.1⟩
  have hw := hw.2
  refine g_putQ C dX11_init_44 hin2 ft_605 ⟨rfl, rfl⟩ (okr_up z0 (by omega)) ?_
  refine g_aload_n C dX11_init_47 rfl 0 rfl ?_
  refine g_bipush (v := (6 : Int32)) C dX11_init_48 (by decide) ?_
  refine g_newa C 0 (ty := .int) dX11_init_50 rfl ft_518 rfl hw.1 (fun _ => rfl) (by decide) (fun _ h => h) (by decide) rfl (by decide) hAd (by omega) (by omega) (by decide) (by decide) ?_
  have zz6 : OKr (fun _ => True) (N + 6) T (N + 5) (20, 6) := ⟨trivial, by omega, hw.1⟩
  have hw := hw.2
  refine g_putQ C dX11_init_52 hin2 ft_606 ⟨rfl, rfl⟩ (okr_up z0 (by omega)) ?_
  refine g_aload_n C dX11_init_55 rfl 0 rfl ?_
  refine g_bipush (v := (48 : Int32)) C dX11_init_56 (by decide) ?_
  refine g_newa C 0 (ty := .int) dX11_init_58 rfl ft_518 rfl hw.1 (fun _ => rfl) (by decide) (fun _ h => h) (by decide) rfl (by decide) hAd (by omega) (by omega) (by decide) (by decide) ?_
  have zz7 : OKr (fun _ => True) (N + 7) T (N + 6) (20, 48) := ⟨trivial, by omega, hw.1⟩
  have hw := hw.2
  refine g_putQ C dX11_init_60 hin2 ft_607 ⟨rfl, rfl⟩ (okr_up z0 (by omega)) ?_
  refine g_aload_n C dX11_init_63 rfl 0 rfl ?_
  refine g_bipush (v := (8 : Int32)) C dX11_init_64 (by decide) ?_
  refine g_newa C 0 (ty := .int) dX11_init_66 rfl ft_518 rfl hw.1 (fun _ => rfl) (by decide) (fun _ h => h) (by decide) rfl (by decide) hAd (by omega) (by omega) (by decide) (by decide) ?_
  have zz8 : OKr (fun _ => True) (N + 8) T (N + 7) (20, 8) := ⟨trivial, by omega, hw.1⟩
  have hw := hw.2
  refine g_putQ C dX11_init_68 hin2 ft_608 ⟨rfl, rfl⟩ (okr_up z0 (by omega)) ?_
  refine g_aload_n C dX11_init_71 rfl 0 rfl ?_
  refine g_sipush (v := (384 : Int32)) C dX11_init_72 (by decide) ?_
  refine g_newa C 0 (ty := .int) dX11_init_75 rfl ft_518 rfl hw.1 (fun _ => rfl) (by decide) (fun _ h => h) (by decide) rfl (by decide) hAd (by omega) (by omega) (by decide) (by decide) ?_
  have zz9 : OKr (fun _ => True) (N + 9) T (N + 8) (20, 384) := ⟨trivial, by omega, hw.1⟩
  have hw := hw.2
  refine g_putQ C dX11_init_77 hin2 ft_609 ⟨rfl, rfl⟩ (okr_up z0 (by omega)) ?_
  refine g_aload_n C dX11_init_80 rfl 0 rfl ?_
  refine g_bipush (v := (6 : Int32)) C dX11_init_81 (by decide) ?_
  refine g_newa C 0 (ty := .int) dX11_init_83 rfl ft_518 rfl hw.1 (fun _ => rfl) (by decide) (fun _ h => h) (by decide) rfl (by decide) hAd (by omega) (by omega) (by decide) (by decide) ?_
  have zz10 : OKr (fun _ => True) (N + 10) T (N + 9) (20, 6) := ⟨trivial, by omega, hw.1⟩
  have hw := hw.2
  refine g_putQ C dX11_init_85 hin2 ft_610 ⟨rfl, rfl⟩ (okr_up z0 (by omega)) ?_
  refine g_aload_n C dX11_init_88 rfl 0 rfl ?_
  refine g_bipush (v := (6 : Int32)) C dX11_init_89 (by decide) ?_
  refine g_newa C 0 (ty := .int) dX11_init_91 rfl ft_518 rfl hw.1 (fun _ => rfl) (by decide) (fun _ h => h) (by decide) rfl (by decide) hAd (by omega) (by omega) (by decide) (by decide) ?_
  have zz11 : OKr (fun _ => True) (N + 11) T (N + 10) (20, 6) := ⟨trivial, by omega, hw.1⟩
  have hw := hw.2
  refine g_putQ C dX11_init_93 hin2 ft_611 ⟨rfl, rfl⟩ (okr_up z0 (by omega)) ?_
  refine g_aload_n C dX11_init_96 rfl 0 rfl ?_
  refine g_bipush (v := (90 : Int32)) C dX11_init_97 (by decide) ?_
  refine g_newa C 0 (ty := .int) dX11_init_99 rfl ft_518 rfl hw.1 (fun _ => rfl) (by decide) (fun _ h => h) (by decide) rfl (by decide) hAd (by omega) (by omega) (by decide) (by decide) ?_
  have zz12 : OKr (fun _ => True) (N + 12) T (N + 11) (20, 90) := ⟨trivial, by omega, hw.1⟩
  have hw := hw.2
  refine g_putQ C dX11_init_101 hin2 ft_612 ⟨rfl, rfl⟩ (okr_up z0 (by omega)) ?_
  refine g_aload_n C dX11_init_104 rfl 0 rfl ?_
  refine g_bipush (v := (8 : Int32)) C dX11_init_105 (by decide) ?_
  refine g_newa C 0 (ty := .int) dX11_init_107 rfl ft_518 rfl hw.1 (fun _ => rfl) (by decide) (fun _ h => h) (by decide) rfl (by decide) hAd (by omega) (by omega) (by decide) (by decide) ?_
  have zz13 : OKr (fun _ => True) (N + 13) T (N + 12) (20, 8) := ⟨trivial, by omega, hw.1⟩
  have hw := hw.2
  refine g_putQ C dX11_init_109 hin2 ft_613 ⟨rfl, rfl⟩ (okr_up z0 (by omega)) ?_
  refine g_aload_n C dX11_init_112 rfl 0 rfl ?_
  refine g_iconst (v := (4 : Int32)) C dX11_init_113 (by decide) ?_
  refine g_newa C 0 (ty := .int) dX11_init_114 rfl ft_518 rfl hw.1 (fun _ => rfl) (by decide) (fun _ h => h) (by decide) rfl (by decide) hAd (by omega) (by omega) (by decide) (by decide) ?_
  have zz14 : OKr (fun _ => True) (N + 14) T (N + 13) (20, 4) := ⟨trivial, by omega, hw.1⟩
  have hw := hw.2
  refine g_putQ C dX11_init_116 hin2 ft_614 ⟨rfl, rfl⟩ (okr_up z0 (by omega)) ?_
  refine g_aload_n C dX11_init_119 rfl 0 rfl ?_
  refine g_iconst (v := (4 : Int32)) C dX11_init_120 (by decide) ?_
  refine g_newa C 0 (ty := .int) dX11_init_121 rfl ft_518 rfl hw.1 (fun _ => rfl) (by decide) (fun _ h => h) (by decide) rfl (by decide) hAd (by omega) (by omega) (by decide) (by decide) ?_
  have zz15 : OKr (fun _ => True) (N + 15) T (N + 14) (20, 4) := ⟨trivial, by omega, hw.1⟩
  have hw := hw.2
  refine g_dup C dX11_init_123 rfl ?_
  refine g_iconst (v := (0 : Int32)) C dX11_init_124 (by decide) ?_
  refine g_iconst (v := (-1 : Int32)) C dX11_init_125 (by decide) ?_
  refine g_iast C dX11_init_126 (okr_up zz15 (by omega)) (vp_lit (by decide +kernel)) ?_
  refine g_dup C dX11_init_127 rfl ?_
  refine g_iconst (v := (1 : Int32)) C dX11_init_128 (by decide) ?_
  refine g_iconst (v := (-1 : Int32)) C dX11_init_129 (by decide) ?_
  refine g_iast C dX11_init_130 (okr_up zz15 (by omega)) (vp_lit (by decide +kernel)) ?_
  refine g_dup C dX11_init_131 rfl ?_
  refine g_iconst (v := (2 : Int32)) C dX11_init_132 (by decide) ?_
  refine g_iconst (v := (-1 : Int32)) C dX11_init_133 (by decide) ?_
  refine g_iast C dX11_init_134 (okr_up zz15 (by omega)) (vp_lit (by decide +kernel)) ?_
  refine g_dup C dX11_init_135 rfl ?_
  refine g_iconst (v := (3 : Int32)) C dX11_init_136 (by decide) ?_
  refine g_iconst (v := (-1 : Int32)) C dX11_init_137 (by decide) ?_
  refine g_iast C dX11_init_138 (okr_up zz15 (by omega)) (vp_lit (by decide +kernel)) ?_
  refine g_putQ C dX11_init_139 hin2 ft_615 ⟨rfl, rfl⟩ (okr_up z0 (by omega)) ?_
  refine g_aload_n C dX11_init_142 rfl 0 rfl ?_
  refine g_bipush (v := (96 : Int32)) C dX11_init_143 (by decide) ?_
  refine g_newa C 3 (ty := .long) dX11_init_145 rfl ft_538 rfl hw.1 (fun _ => rfl) (by decide) (fun _ h => h) (by decide) rfl (by decide) hAd (by omega) (by omega) (by decide) (by decide) ?_
  have zz16 : OKr (fun _ => True) (N + 16) T (N + 15) (23, 96) := ⟨trivial, by omega, hw.1⟩
  have hw := hw.2
  refine g_putQ C dX11_init_147 hin2 ft_616 ⟨rfl, rfl⟩ (okr_up z0 (by omega)) ?_
  refine g_aload_n C dX11_init_150 rfl 0 rfl ?_
  refine g_getQv C dX11_init_151 ft_363 (okr_up z0 (by omega)) hw.1 ?_
  have hw := hw.2
  refine g_iconst (v := (0 : Int32)) C dX11_init_154 (by decide) ?_
  refine g_iconst (v := (4 : Int32)) C dX11_init_155 (by decide) ?_
  refine g_iast C dX11_init_156 (okr_up zz1 (by omega)) (vp_lit (by decide +kernel)) ?_
  refine g_aload_n C dX11_init_157 rfl 0 rfl ?_
  refine g_getQv C dX11_init_158 ft_363 (okr_up z0 (by omega)) hw.1 ?_
  have hw := hw.2
  refine g_iconst (v := (1 : Int32)) C dX11_init_161 (by decide) ?_
  refine g_iconst (v := (4 : Int32)) C dX11_init_162 (by decide) ?_
  refine g_iast C dX11_init_163 (okr_up zz1 (by omega)) (vp_lit (by decide +kernel)) ?_
  refine g_aload_n C dX11_init_164 rfl 0 rfl ?_
  refine g_getQv C dX11_init_165 ft_363 (okr_up z0 (by omega)) hw.1 ?_
  have hw := hw.2
  refine g_iconst (v := (3 : Int32)) C dX11_init_168 (by decide) ?_
  refine g_iconst (v := (1 : Int32)) C dX11_init_169 (by decide) ?_
  refine g_iast C dX11_init_170 (okr_up zz1 (by omega)) (vp_lit (by decide +kernel)) ?_
  refine g_aload_n C dX11_init_171 rfl 0 rfl ?_
  refine g_getQv C dX11_init_172 ft_363 (okr_up z0 (by omega)) hw.1 ?_
  have hw := hw.2
  refine g_iconst (v := (5 : Int32)) C dX11_init_175 (by decide) ?_
  refine g_iconst (v := (1 : Int32)) C dX11_init_176 (by decide) ?_
  refine g_iast C dX11_init_177 (okr_up zz1 (by omega)) (vp_lit (by decide +kernel)) ?_
  refine g_aload_n C dX11_init_178 rfl 0 rfl ?_
  obtain ⟨Z, hWF, hz9, hw⟩ := hw
  refine g_callVv (As := []) C dX11_init_179 ft_387 hz9 ft_467 ft_468 (met_X11_laysPath l hWF hz9 hw) ⟨rfl, rfl, Nat.le_of_ble_eq_true rfl, Nat.le_of_ble_eq_true rfl⟩ ⟨Nat.le_of_ble_eq_true rfl, Nat.le_of_ble_eq_true rfl⟩ rfl rfl (Nat.le_of_ble_eq_true rfl) (fun I17 J17 Q17 hp => ?_)
  obtain ⟨hw, eJ, eQ, hWF⟩ := hp
  have eJ : (upk (upk (upk (upk (upk (upk (upk (upk (upk (upk (upk (upk (upk (upk (upk (upk J N zJ) (N + 1) zJ) (N + 2) zJ) (N + 3) zJ) (N + 4) zJ) (N + 5) zJ) (N + 6) zJ) (N + 7) zJ) (N + 8) zJ) (N + 9) zJ) (N + 10) zJ) (N + 11) zJ) (N + 12) zJ) (N + 13) zJ) (N + 14) zJ) (N + 15) zJ) = J17 := Eq.symm eJ
  subst eJ
  have eQ : (stq (upk (stq (upk (stq (upk (stq (upk (stq (upk (stq (upk (stq (upk (stq (upk (stq (upk (stq (upk (stq (upk (stq (upk (stq (upk (stq (upk (stq (upk (stq (upk Q N zQ) h0 0 N) (N + 1) zQ) h0 3 (N + 1)) (N + 2) zQ) h0 7 (N + 2)) (N + 3) zQ) h0 8 (N + 3)) (N + 4) zQ) h0 9 (N + 4)) (N + 5) zQ) h0 10 (N + 5)) (N + 6) zQ) h0 11 (N + 6)) (N + 7) zQ) h0 13 (N + 7)) (N + 8) zQ) h0 14 (N + 8)) (N + 9) zQ) h0 15 (N + 9)) (N + 10) zQ) h0 16 (N + 10)) (N + 11) zQ) h0 19 (N + 11)) (N + 12) zQ) h0 23 (N + 12)) (N + 13) zQ) h0 24 (N + 13)) (N + 14) zQ) h0 25 (N + 14)) (N + 15) zQ) h0 26 (N + 15)) = Q17 := Eq.symm eQ
  subst eQ
  clear hWF hz9
  try dsimp only at hw
  refine g_aload_n C dX11_init_182 rfl 0 rfl ?_
  obtain ⟨Z, hWF, hz9, hw⟩ := hw
  refine g_callVv (As := []) C dX11_init_183 ft_387 hz9 ft_469 ft_470 (met_X11_forgets l hWF hz9 hw) ⟨rfl, rfl, Nat.le_of_ble_eq_true rfl, Nat.le_of_ble_eq_true rfl⟩ ⟨Nat.le_of_ble_eq_true rfl, Nat.le_of_ble_eq_true rfl⟩ rfl rfl (Nat.le_of_ble_eq_true rfl) (fun I18 J18 Q18 hp => ?_)
  obtain ⟨hw, eJ, eQ, hWF⟩ := hp
  have eJ : (upk (upk (upk (upk (upk (upk (upk (upk (upk (upk (upk (upk (upk (upk (upk (upk J N zJ) (N + 1) zJ) (N + 2) zJ) (N + 3) zJ) (N + 4) zJ) (N + 5) zJ) (N + 6) zJ) (N + 7) zJ) (N + 8) zJ) (N + 9) zJ) (N + 10) zJ) (N + 11) zJ) (N + 12) zJ) (N + 13) zJ) (N + 14) zJ) (N + 15) zJ) = J18 := Eq.symm eJ
  subst eJ
  have eQ : (stq (upk (stq (upk (stq (upk (stq (upk (stq (upk (stq (upk (stq (upk (stq (upk (stq (upk (stq (upk (stq (upk (stq (upk (stq (upk (stq (upk (stq (upk (stq (upk Q N zQ) h0 0 N) (N + 1) zQ) h0 3 (N + 1)) (N + 2) zQ) h0 7 (N + 2)) (N + 3) zQ) h0 8 (N + 3)) (N + 4) zQ) h0 9 (N + 4)) (N + 5) zQ) h0 10 (N + 5)) (N + 6) zQ) h0 11 (N + 6)) (N + 7) zQ) h0 13 (N + 7)) (N + 8) zQ) h0 14 (N + 8)) (N + 9) zQ) h0 15 (N + 9)) (N + 10) zQ) h0 16 (N + 10)) (N + 11) zQ) h0 19 (N + 11)) (N + 12) zQ) h0 23 (N + 12)) (N + 13) zQ) h0 24 (N + 13)) (N + 14) zQ) h0 25 (N + 14)) (N + 15) zQ) h0 26 (N + 15)) = Q18 := Eq.symm eQ
  subst eQ
  clear hWF hz9
  try dsimp only at hw
  exact g_cret C dX11_init_186 hr hw rfl rfl rfl
