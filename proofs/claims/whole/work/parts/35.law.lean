def wp_law_L18 (f1_1 : Nat) (f2_1 : Nat) (L : Nat) (xs : Nat → Int32) : Nat → KI → KJ → KQ → Int32 → Prop
  | 0, _, _, _, _ => False
  | n18 + 1, I_1, J_1, Q_1, x3_1 => ((((Int32.ofNat L) - (6 : Int32)) < x3_1 → True) ∧ (¬ ((Int32.ofNat L) - (6 : Int32)) < x3_1 → (vp_in x3_1 L ∧ ((((xs x3_1.toNatClampNeg) &&& (31 : Int32)) = 0 → (vp_in (x3_1 + (1 : Int32)) L ∧ (vp_in (x3_1 + (2 : Int32)) L ∧ wp_X10_put I_1 Q_1 f1_1 (xs (x3_1 + (1 : Int32)).toNatClampNeg) (xs (x3_1 + (2 : Int32)).toNatClampNeg) (fun r4 I4 Q4 => (vp_in (x3_1 + (1 : Int32)) L ∧ (vp_in (x3_1 + (2 : Int32)) L ∧ wp_X11_put I4 Q4 f2_1 (xs (x3_1 + (1 : Int32)).toNatClampNeg) (xs (x3_1 + (2 : Int32)).toNatClampNeg) (fun r5 I5 => ((r4 = r5 → wp_law_L18 f1_1 f2_1 L xs n18 I5 J_1 Q4 (x3_1 + (6 : Int32))) ∧ (¬ r4 = r5 → False))))))))) ∧ (((xs x3_1.toNatClampNeg) &&& (31 : Int32)) = 1 → (vp_in (x3_1 + (1 : Int32)) L ∧ (vp_in (x3_1 + (2 : Int32)) L ∧ wp_X10_node I_1 Q_1 f1_1 (xs (x3_1 + (1 : Int32)).toNatClampNeg) (xs (x3_1 + (2 : Int32)).toNatClampNeg) (fun r8 I8 => (vp_in (x3_1 + (1 : Int32)) L ∧ (vp_in (x3_1 + (2 : Int32)) L ∧ wp_X11_node I8 Q_1 f2_1 (xs (x3_1 + (1 : Int32)).toNatClampNeg) (xs (x3_1 + (2 : Int32)).toNatClampNeg) (fun r9 I9 => ((r8 = r9 → wp_law_L18 f1_1 f2_1 L xs n18 I9 J_1 Q_1 (x3_1 + (6 : Int32))) ∧ (¬ r8 = r9 → False))))))))) ∧ (((xs x3_1.toNatClampNeg) &&& (31 : Int32)) = 2 → (vp_in (x3_1 + (1 : Int32)) L ∧ (vp_in (x3_1 + (2 : Int32)) L ∧ wp_X10_sum I_1 Q_1 f1_1 (xs (x3_1 + (1 : Int32)).toNatClampNeg) (xs (x3_1 + (2 : Int32)).toNatClampNeg) (fun r12 => (vp_in (x3_1 + (1 : Int32)) L ∧ (vp_in (x3_1 + (2 : Int32)) L ∧ wp_X11_sum I_1 Q_1 f2_1 (xs (x3_1 + (1 : Int32)).toNatClampNeg) (xs (x3_1 + (2 : Int32)).toNatClampNeg) (fun r13 => ((r12 = r13 → wp_law_L18 f1_1 f2_1 L xs n18 I_1 J_1 Q_1 (x3_1 + (6 : Int32))) ∧ (¬ r12 = r13 → False))))))))) ∧ (((xs x3_1.toNatClampNeg) &&& (31 : Int32)) = 3 → (vp_in (x3_1 + (1 : Int32)) L ∧ (vp_in (x3_1 + (2 : Int32)) L ∧ wp_X10_knows I_1 Q_1 f1_1 (xs (x3_1 + (1 : Int32)).toNatClampNeg) (xs (x3_1 + (2 : Int32)).toNatClampNeg) (fun r16 => (vp_in (x3_1 + (1 : Int32)) L ∧ (vp_in (x3_1 + (2 : Int32)) L ∧ wp_X11_knows I_1 Q_1 f2_1 (xs (x3_1 + (1 : Int32)).toNatClampNeg) (xs (x3_1 + (2 : Int32)).toNatClampNeg) (fun r17 => ((r16 = r17 → wp_law_L18 f1_1 f2_1 L xs n18 I_1 J_1 Q_1 (x3_1 + (6 : Int32))) ∧ (¬ r16 = r17 → False))))))))) ∧ (((xs x3_1.toNatClampNeg) &&& (31 : Int32)) = 4 → (vp_in (x3_1 + (1 : Int32)) L ∧ wp_X10_sends I_1 Q_1 f1_1 (xs (x3_1 + (1 : Int32)).toNatClampNeg) (fun r20 I20 => (vp_in (x3_1 + (1 : Int32)) L ∧ wp_X11_sends I20 Q_1 f2_1 (xs (x3_1 + (1 : Int32)).toNatClampNeg) (fun r21 I21 => ((r20 = r21 → wp_law_L18 f1_1 f2_1 L xs n18 I21 J_1 Q_1 (x3_1 + (6 : Int32))) ∧ (¬ r20 = r21 → False))))))) ∧ (((xs x3_1.toNatClampNeg) &&& (31 : Int32)) = 5 → (vp_in (x3_1 + (1 : Int32)) L ∧ (vp_in (x3_1 + (2 : Int32)) L ∧ wp_X10_linked I_1 Q_1 f1_1 (xs (x3_1 + (1 : Int32)).toNatClampNeg) (xs (x3_1 + (2 : Int32)).toNatClampNeg) (fun r24 => (vp_in (x3_1 + (1 : Int32)) L ∧ (vp_in (x3_1 + (2 : Int32)) L ∧ wp_X11_linked I_1 Q_1 f2_1 (xs (x3_1 + (1 : Int32)).toNatClampNeg) (xs (x3_1 + (2 : Int32)).toNatClampNeg) (fun r25 => ((r24 = r25 → wp_law_L18 f1_1 f2_1 L xs n18 I_1 J_1 Q_1 (x3_1 + (6 : Int32))) ∧ (¬ r24 = r25 → False))))))))) ∧ (((xs x3_1.toNatClampNeg) &&& (31 : Int32)) = 6 → (vp_in (x3_1 + (1 : Int32)) L ∧ wp_X10_count I_1 Q_1 f1_1 (xs (x3_1 + (1 : Int32)).toNatClampNeg) (fun r28 => (vp_in (x3_1 + (1 : Int32)) L ∧ wp_X11_count I_1 Q_1 f2_1 (xs (x3_1 + (1 : Int32)).toNatClampNeg) (fun r29 => ((r28 = r29 → wp_law_L18 f1_1 f2_1 L xs n18 I_1 J_1 Q_1 (x3_1 + (6 : Int32))) ∧ (¬ r28 = r29 → False))))))) ∧ (((xs x3_1.toNatClampNeg) &&& (31 : Int32)) = 7 → (vp_in (x3_1 + (1 : Int32)) L ∧ wp_X10_go I_1 Q_1 f1_1 (xs (x3_1 + (1 : Int32)).toNatClampNeg) (fun r32 I32 Q32 => (vp_in (x3_1 + (1 : Int32)) L ∧ wp_X11_go I32 Q32 f2_1 (xs (x3_1 + (1 : Int32)).toNatClampNeg) (fun r33 I33 => ((r32 = r33 → wp_law_L18 f1_1 f2_1 L xs n18 I33 J_1 Q32 (x3_1 + (6 : Int32))) ∧ (¬ r32 = r33 → False))))))) ∧ (((xs x3_1.toNatClampNeg) &&& (31 : Int32)) = 8 → (vp_in (x3_1 + (1 : Int32)) L ∧ wp_X10_gain I_1 Q_1 f1_1 (xs (x3_1 + (1 : Int32)).toNatClampNeg) (fun r36 I36 => (vp_in (x3_1 + (1 : Int32)) L ∧ wp_X11_gain I36 Q_1 f2_1 (xs (x3_1 + (1 : Int32)).toNatClampNeg) (fun r37 I37 => ((r36 = r37 → wp_law_L18 f1_1 f2_1 L xs n18 I37 J_1 Q_1 (x3_1 + (6 : Int32))) ∧ (¬ r36 = r37 → False))))))) ∧ (((xs x3_1.toNatClampNeg) &&& (31 : Int32)) = 9 → wp_X10_foreseen I_1 Q_1 f1_1 (fun r40 I40 => wp_X11_foreseen I40 Q_1 f2_1 (fun r41 I41 => ((r40 = r41 → wp_law_L18 f1_1 f2_1 L xs n18 I41 J_1 Q_1 (x3_1 + (6 : Int32))) ∧ (¬ r40 = r41 → False))))) ∧ (((xs x3_1.toNatClampNeg) &&& (31 : Int32)) = 10 → (vp_in (x3_1 + (1 : Int32)) L ∧ wp_X10_views I_1 Q_1 f1_1 (xs (x3_1 + (1 : Int32)).toNatClampNeg) (fun r44 I44 => (vp_in (x3_1 + (1 : Int32)) L ∧ wp_X11_views I44 Q_1 f2_1 (xs (x3_1 + (1 : Int32)).toNatClampNeg) (fun r45 I45 => ((r44 = r45 → wp_law_L18 f1_1 f2_1 L xs n18 I45 J_1 Q_1 (x3_1 + (6 : Int32))) ∧ (¬ r44 = r45 → False))))))) ∧ (((xs x3_1.toNatClampNeg) &&& (31 : Int32)) = 11 → (vp_in (x3_1 + (1 : Int32)) L ∧ (vp_in (x3_1 + (2 : Int32)) L ∧ wp_X10_view I_1 Q_1 f1_1 (xs (x3_1 + (1 : Int32)).toNatClampNeg) (xs (x3_1 + (2 : Int32)).toNatClampNeg) (fun r48 I48 => (vp_in (x3_1 + (1 : Int32)) L ∧ (vp_in (x3_1 + (2 : Int32)) L ∧ wp_X11_view I48 Q_1 f2_1 (xs (x3_1 + (1 : Int32)).toNatClampNeg) (xs (x3_1 + (2 : Int32)).toNatClampNeg) (fun r49 I49 => ((r48 = r49 → wp_law_L18 f1_1 f2_1 L xs n18 I49 J_1 Q_1 (x3_1 + (6 : Int32))) ∧ (¬ r48 = r49 → False))))))))) ∧ (((xs x3_1.toNatClampNeg) &&& (31 : Int32)) = 12 → (vp_in (x3_1 + (1 : Int32)) L ∧ (vp_in (x3_1 + (2 : Int32)) L ∧ wp_X10_joined I_1 J_1 Q_1 f1_1 (xs (x3_1 + (1 : Int32)).toNatClampNeg) (xs (x3_1 + (2 : Int32)).toNatClampNeg) (fun r52 J52 => (vp_in (x3_1 + (1 : Int32)) L ∧ (vp_in (x3_1 + (2 : Int32)) L ∧ wp_X11_joined I_1 J52 Q_1 f2_1 (xs (x3_1 + (1 : Int32)).toNatClampNeg) (xs (x3_1 + (2 : Int32)).toNatClampNeg) (fun r53 J53 => (((lg_cmp r52 r53) = 0 → wp_law_L18 f1_1 f2_1 L xs n18 I_1 J53 Q_1 (x3_1 + (6 : Int32))) ∧ (¬ (lg_cmp r52 r53) = 0 → False))))))))) ∧ (((xs x3_1.toNatClampNeg) &&& (31 : Int32)) = 13 → (vp_in (x3_1 + (1 : Int32)) L ∧ (vp_in (x3_1 + (2 : Int32)) L ∧ wp_X10_tell I_1 Q_1 f1_1 (xs (x3_1 + (1 : Int32)).toNatClampNeg) (xs (x3_1 + (2 : Int32)).toNatClampNeg) (fun r56 I56 Q56 => (vp_in (x3_1 + (1 : Int32)) L ∧ (vp_in (x3_1 + (2 : Int32)) L ∧ wp_X11_tell I56 Q56 f2_1 (xs (x3_1 + (1 : Int32)).toNatClampNeg) (xs (x3_1 + (2 : Int32)).toNatClampNeg) (fun r57 I57 => ((r56 = r57 → wp_law_L18 f1_1 f2_1 L xs n18 I57 J_1 Q56 (x3_1 + (6 : Int32))) ∧ (¬ r56 = r57 → False))))))))) ∧ (((xs x3_1.toNatClampNeg) &&& (31 : Int32)) = 14 → (vp_in (x3_1 + (1 : Int32)) L ∧ wp_X10_type I_1 Q_1 f1_1 (xs (x3_1 + (1 : Int32)).toNatClampNeg) (fun r60 I60 => (vp_in (x3_1 + (1 : Int32)) L ∧ wp_X11_type I60 Q_1 f2_1 (xs (x3_1 + (1 : Int32)).toNatClampNeg) (fun r61 I61 => ((r60 = r61 → wp_law_L18 f1_1 f2_1 L xs n18 I61 J_1 Q_1 (x3_1 + (6 : Int32))) ∧ (¬ r60 = r61 → False))))))) ∧ (((xs x3_1.toNatClampNeg) &&& (31 : Int32)) = 15 → wp_X10_read I_1 Q_1 f1_1 (fun r64 I64 Q64 => wp_X11_read I64 Q64 f2_1 (fun r65 I65 => ((r64 = r65 → wp_law_L18 f1_1 f2_1 L xs n18 I65 J_1 Q64 (x3_1 + (6 : Int32))) ∧ (¬ r64 = r65 → False))))) ∧ (((xs x3_1.toNatClampNeg) &&& (31 : Int32)) = 16 → (vp_in (x3_1 + (1 : Int32)) L ∧ wp_X10_drift I_1 Q_1 f1_1 (xs (x3_1 + (1 : Int32)).toNatClampNeg) (fun r68 I68 Q68 => (vp_in (x3_1 + (1 : Int32)) L ∧ wp_X11_drift I68 Q68 f2_1 (xs (x3_1 + (1 : Int32)).toNatClampNeg) (fun r69 I69 => ((r68 = r69 → wp_law_L18 f1_1 f2_1 L xs n18 I69 J_1 Q68 (x3_1 + (6 : Int32))) ∧ (¬ r68 = r69 → False))))))) ∧ (((xs x3_1.toNatClampNeg) &&& (31 : Int32)) = 17 → wp_X10_undo I_1 Q_1 f1_1 (fun r72 I72 => wp_X11_undo I72 Q_1 f2_1 (fun r73 I73 => ((r72 = r73 → wp_law_L18 f1_1 f2_1 L xs n18 I73 J_1 Q_1 (x3_1 + (6 : Int32))) ∧ (¬ r72 = r73 → False))))) ∧ (((xs x3_1.toNatClampNeg) &&& (31 : Int32)) = 18 → (vp_in (x3_1 + (1 : Int32)) L ∧ wp_X10_seed I_1 Q_1 f1_1 (xs (x3_1 + (1 : Int32)).toNatClampNeg) (fun r76 I76 => (vp_in (x3_1 + (1 : Int32)) L ∧ wp_X11_seed I76 Q_1 f2_1 (xs (x3_1 + (1 : Int32)).toNatClampNeg) (fun r77 I77 => ((r76 = r77 → wp_law_L18 f1_1 f2_1 L xs n18 I77 J_1 Q_1 (x3_1 + (6 : Int32))) ∧ (¬ r76 = r77 → False))))))) ∧ (((xs x3_1.toNatClampNeg) &&& (31 : Int32)) = 19 → wp_X10_image I_1 Q_1 f1_1 (fun r80 I80 => wp_X11_image I80 Q_1 f2_1 (fun r81 I81 => ((r80 = r81 → wp_law_L18 f1_1 f2_1 L xs n18 I81 J_1 Q_1 (x3_1 + (6 : Int32))) ∧ (¬ r80 = r81 → False))))) ∧ (((xs x3_1.toNatClampNeg) &&& (31 : Int32)) = 20 → wp_X10_restore I_1 Q_1 f1_1 (fun r84 I84 => wp_X11_restore I84 Q_1 f2_1 (fun r85 I85 => ((r84 = r85 → wp_law_L18 f1_1 f2_1 L xs n18 I85 J_1 Q_1 (x3_1 + (6 : Int32))) ∧ (¬ r84 = r85 → False))))) ∧ (((xs x3_1.toNatClampNeg) &&& (31 : Int32)) = 21 → (vp_in (x3_1 + (1 : Int32)) L ∧ (vp_in (x3_1 + (2 : Int32)) L ∧ (vp_in (x3_1 + (3 : Int32)) L ∧ wp_X10_could I_1 J_1 Q_1 f1_1 (xs (x3_1 + (1 : Int32)).toNatClampNeg) (xs (x3_1 + (2 : Int32)).toNatClampNeg) (xs (x3_1 + (3 : Int32)).toNatClampNeg) (fun r88 I88 => (vp_in (x3_1 + (1 : Int32)) L ∧ (vp_in (x3_1 + (2 : Int32)) L ∧ (vp_in (x3_1 + (3 : Int32)) L ∧ wp_X11_could I88 J_1 Q_1 f2_1 (xs (x3_1 + (1 : Int32)).toNatClampNeg) (xs (x3_1 + (2 : Int32)).toNatClampNeg) (xs (x3_1 + (3 : Int32)).toNatClampNeg) (fun r89 => ((r88 = r89 → wp_law_L18 f1_1 f2_1 L xs n18 I88 J_1 Q_1 (x3_1 + (6 : Int32))) ∧ (¬ r88 = r89 → False))))))))))) ∧ (((xs x3_1.toNatClampNeg) &&& (31 : Int32)) = 22 → (vp_in (x3_1 + (1 : Int32)) L ∧ (vp_in (x3_1 + (2 : Int32)) L ∧ (vp_in (x3_1 + (3 : Int32)) L ∧ (vp_in (x3_1 + (4 : Int32)) L ∧ wp_X10_film I_1 J_1 Q_1 f1_1 (xs (x3_1 + (1 : Int32)).toNatClampNeg) (xs (x3_1 + (2 : Int32)).toNatClampNeg) (xs (x3_1 + (3 : Int32)).toNatClampNeg) (xs (x3_1 + (4 : Int32)).toNatClampNeg) (fun r92 J92 => (vp_in (x3_1 + (1 : Int32)) L ∧ (vp_in (x3_1 + (2 : Int32)) L ∧ (vp_in (x3_1 + (3 : Int32)) L ∧ (vp_in (x3_1 + (4 : Int32)) L ∧ wp_X11_film I_1 J92 Q_1 f2_1 (xs (x3_1 + (1 : Int32)).toNatClampNeg) (xs (x3_1 + (2 : Int32)).toNatClampNeg) (xs (x3_1 + (3 : Int32)).toNatClampNeg) (xs (x3_1 + (4 : Int32)).toNatClampNeg) (fun r93 J93 => ((r92 = r93 → wp_law_L18 f1_1 f2_1 L xs n18 I_1 J93 Q_1 (x3_1 + (6 : Int32))) ∧ (¬ r92 = r93 → False))))))))))))) ∧ (((xs x3_1.toNatClampNeg) &&& (31 : Int32)) = 23 → (vp_in (x3_1 + (1 : Int32)) L ∧ (vp_in (x3_1 + (2 : Int32)) L ∧ (vp_in (x3_1 + (3 : Int32)) L ∧ wp_X10_sheet I_1 J_1 Q_1 f1_1 (xs (x3_1 + (1 : Int32)).toNatClampNeg) (xs (x3_1 + (2 : Int32)).toNatClampNeg) (xs (x3_1 + (3 : Int32)).toNatClampNeg) (fun r96 I96 J96 => (vp_in (x3_1 + (1 : Int32)) L ∧ (vp_in (x3_1 + (2 : Int32)) L ∧ (vp_in (x3_1 + (3 : Int32)) L ∧ wp_X11_sheet I96 J96 Q_1 f2_1 (xs (x3_1 + (1 : Int32)).toNatClampNeg) (xs (x3_1 + (2 : Int32)).toNatClampNeg) (xs (x3_1 + (3 : Int32)).toNatClampNeg) (fun r97 I97 J97 => ((r96 = r97 → wp_law_L18 f1_1 f2_1 L xs n18 I97 J97 Q_1 (x3_1 + (6 : Int32))) ∧ (¬ r96 = r97 → False))))))))))) ∧ (((xs x3_1.toNatClampNeg) &&& (31 : Int32)) = 24 → (vp_in (x3_1 + (1 : Int32)) L ∧ wp_X10_drop I_1 Q_1 f1_1 (xs (x3_1 + (1 : Int32)).toNatClampNeg) (fun r100 I100 => (vp_in (x3_1 + (1 : Int32)) L ∧ wp_X11_drop I100 Q_1 f2_1 (xs (x3_1 + (1 : Int32)).toNatClampNeg) (fun r101 I101 => ((r100 = r101 → wp_law_L18 f1_1 f2_1 L xs n18 I101 J_1 Q_1 (x3_1 + (6 : Int32))) ∧ (¬ r100 = r101 → False))))))) ∧ (((xs x3_1.toNatClampNeg) &&& (31 : Int32)) = 25 → (vp_in (x3_1 + (1 : Int32)) L ∧ (vp_in (x3_1 + (2 : Int32)) L ∧ (vp_in (x3_1 + (3 : Int32)) L ∧ (vp_in (x3_1 + (4 : Int32)) L ∧ (vp_in (x3_1 + (5 : Int32)) L ∧ wp_X10_item I_1 J_1 Q_1 f1_1 (xs (x3_1 + (1 : Int32)).toNatClampNeg) (xs (x3_1 + (2 : Int32)).toNatClampNeg) (xs (x3_1 + (3 : Int32)).toNatClampNeg) ((((xs (x3_1 + (4 : Int32)).toNatClampNeg).toInt64) <<< ((32 : Int32).toInt64 &&& 63)) ||| (((xs (x3_1 + (5 : Int32)).toNatClampNeg).toInt64) &&& (4294967295 : Int64))) (fun r104 J104 => (vp_in (x3_1 + (1 : Int32)) L ∧ (vp_in (x3_1 + (2 : Int32)) L ∧ (vp_in (x3_1 + (3 : Int32)) L ∧ (vp_in (x3_1 + (4 : Int32)) L ∧ (vp_in (x3_1 + (5 : Int32)) L ∧ wp_X11_item I_1 J104 Q_1 f2_1 (xs (x3_1 + (1 : Int32)).toNatClampNeg) (xs (x3_1 + (2 : Int32)).toNatClampNeg) (xs (x3_1 + (3 : Int32)).toNatClampNeg) ((((xs (x3_1 + (4 : Int32)).toNatClampNeg).toInt64) <<< ((32 : Int32).toInt64 &&& 63)) ||| (((xs (x3_1 + (5 : Int32)).toNatClampNeg).toInt64) &&& (4294967295 : Int64))) (fun r105 J105 => ((r104 = r105 → wp_law_L18 f1_1 f2_1 L xs n18 I_1 J105 Q_1 (x3_1 + (6 : Int32))) ∧ (¬ r104 = r105 → False))))))))))))))) ∧ (((xs x3_1.toNatClampNeg) &&& (31 : Int32)) = 26 → (vp_in (x3_1 + (1 : Int32)) L ∧ (vp_in (x3_1 + (2 : Int32)) L ∧ (vp_in (x3_1 + (3 : Int32)) L ∧ (vp_in (x3_1 + (4 : Int32)) L ∧ (vp_in (x3_1 + (5 : Int32)) L ∧ wp_X10_copy I_1 J_1 Q_1 f1_1 (xs (x3_1 + (1 : Int32)).toNatClampNeg) (xs (x3_1 + (2 : Int32)).toNatClampNeg) (xs (x3_1 + (3 : Int32)).toNatClampNeg) (xs (x3_1 + (4 : Int32)).toNatClampNeg) (xs (x3_1 + (5 : Int32)).toNatClampNeg) (fun r108 J108 => (vp_in (x3_1 + (1 : Int32)) L ∧ (vp_in (x3_1 + (2 : Int32)) L ∧ (vp_in (x3_1 + (3 : Int32)) L ∧ (vp_in (x3_1 + (4 : Int32)) L ∧ (vp_in (x3_1 + (5 : Int32)) L ∧ wp_X11_copy I_1 J108 Q_1 f2_1 (xs (x3_1 + (1 : Int32)).toNatClampNeg) (xs (x3_1 + (2 : Int32)).toNatClampNeg) (xs (x3_1 + (3 : Int32)).toNatClampNeg) (xs (x3_1 + (4 : Int32)).toNatClampNeg) (xs (x3_1 + (5 : Int32)).toNatClampNeg) (fun r109 J109 => ((r108 = r109 → wp_law_L18 f1_1 f2_1 L xs n18 I_1 J109 Q_1 (x3_1 + (6 : Int32))) ∧ (¬ r108 = r109 → False))))))))))))))) ∧ (¬ ((xs x3_1.toNatClampNeg) &&& (31 : Int32)) = 0 → ¬ ((xs x3_1.toNatClampNeg) &&& (31 : Int32)) = 1 → ¬ ((xs x3_1.toNatClampNeg) &&& (31 : Int32)) = 2 → ¬ ((xs x3_1.toNatClampNeg) &&& (31 : Int32)) = 3 → ¬ ((xs x3_1.toNatClampNeg) &&& (31 : Int32)) = 4 → ¬ ((xs x3_1.toNatClampNeg) &&& (31 : Int32)) = 5 → ¬ ((xs x3_1.toNatClampNeg) &&& (31 : Int32)) = 6 → ¬ ((xs x3_1.toNatClampNeg) &&& (31 : Int32)) = 7 → ¬ ((xs x3_1.toNatClampNeg) &&& (31 : Int32)) = 8 → ¬ ((xs x3_1.toNatClampNeg) &&& (31 : Int32)) = 9 → ¬ ((xs x3_1.toNatClampNeg) &&& (31 : Int32)) = 10 → ¬ ((xs x3_1.toNatClampNeg) &&& (31 : Int32)) = 11 → ¬ ((xs x3_1.toNatClampNeg) &&& (31 : Int32)) = 12 → ¬ ((xs x3_1.toNatClampNeg) &&& (31 : Int32)) = 13 → ¬ ((xs x3_1.toNatClampNeg) &&& (31 : Int32)) = 14 → ¬ ((xs x3_1.toNatClampNeg) &&& (31 : Int32)) = 15 → ¬ ((xs x3_1.toNatClampNeg) &&& (31 : Int32)) = 16 → ¬ ((xs x3_1.toNatClampNeg) &&& (31 : Int32)) = 17 → ¬ ((xs x3_1.toNatClampNeg) &&& (31 : Int32)) = 18 → ¬ ((xs x3_1.toNatClampNeg) &&& (31 : Int32)) = 19 → ¬ ((xs x3_1.toNatClampNeg) &&& (31 : Int32)) = 20 → ¬ ((xs x3_1.toNatClampNeg) &&& (31 : Int32)) = 21 → ¬ ((xs x3_1.toNatClampNeg) &&& (31 : Int32)) = 22 → ¬ ((xs x3_1.toNatClampNeg) &&& (31 : Int32)) = 23 → ¬ ((xs x3_1.toNatClampNeg) &&& (31 : Int32)) = 24 → ¬ ((xs x3_1.toNatClampNeg) &&& (31 : Int32)) = 25 → ¬ ((xs x3_1.toNatClampNeg) &&& (31 : Int32)) = 26 → wp_law_L18 f1_1 f2_1 L xs n18 I_1 J_1 Q_1 (x3_1 + (6 : Int32)))))))
def wp_law (I : KI) (J : KJ) (Q : KQ) (L : Nat) (xs : Nat → Int32) : Prop := (∃ q18, wp_law_L18 0 287 L xs q18 I J Q (0 : Int32))
set_option maxHeartbeats 40000000 in
set_option maxRecDepth 100000 in
theorem law_body {p : Program} {l : Launch} {e : Env} {s : State} {m : MethodId} {below : List Frame} {meth : Method} {c : Code} {A : Nat → Prop} {D : va_G} {D2 : Nat → ClassId} {ad : Nat → Nat} {N : Nat} {T : Nat → Nat × Nat} {Z : Nat → Prop} {b L : Nat} {xs : Nat → Int32} {I : KI} {J : KJ} {Q : KQ} (C : CX p s m #[Value.ref b] meth c cL_law 4 RL A D D2) (hr : meth.sig.returnType = ret) (hX : va_X b L xs s s.heap) (hbl : b < s.heap.size) (hbA : ¬ A b) (hA0 : ∀ q, A q → s.heap.size ≤ q) (hWF : WF Z N T Q) (z1 : OKr Z N T 0 (10, 0)) (z2 : OKr Z N T 287 (11, 0)) (hw : wp_law I J Q L xs) : GG p l e room_1 s m #[Value.ref b] below meth c 4 A D D2 304 4685 (lw_Z below #[Value.ref b] s) ad N T I J Q 18 [(0, .ref b), (1, .ref (ad 0)), (2, .ref (ad 287)), (3, .int (0 : Int32))] [] := by
  unfold wp_law at hw
  have L18_u111 : ∀ (n18 : Nat) (I_1 : KI) (J_1 : KJ) (Q_1 : KQ) (x3_1 : Int32), wp_law_L18 0 287 L xs n18 I_1 J_1 Q_1 x3_1 → WF Z N T Q_1 → GG p l e room_1 s m #[Value.ref b] below meth c 4 A D D2 304 4685 (lw_Z below #[Value.ref b] s) ad N T I_1 J_1 Q_1 18 [(0, .ref b), (1, .ref (ad 0)), (2, .ref (ad 287)), (3, .int x3_1)] [] := by
    intro n18
    induction n18 with
    | zero => intro I_1 J_1 Q_1 x3_1 hw; exact hw.elim
    | succ n18 ih_u111 =>
      intro I_1 J_1 Q_1 x3_1 hw hWF
      unfold wp_law_L18 at hw
      refine g_iload_n C dL_law_18 rfl 3 rfl ?_
      refine g_aload_n C dL_law_19 rfl 0 rfl ?_
      refine g_xlen C hX hbl hbA dL_law_20 ?_
      refine g_bipush (v := (6 : Int32)) C dL_law_21 (by decide) ?_
      refine g_isub C dL_law_23 ?_
      refine g_icmp_gt (tgt := 984) C dL_law_24 (by decide) (fun c113 => ?_) (fun c113 => ?_)
      · have hw := hw.1 c113
        refine g_iconst (v := (1 : Int32)) C dL_law_984 (by decide) ?_
        exact g_lawend C hr hA0 (Nat.le_of_ble_eq_true rfl) (Nat.le_of_ble_eq_true rfl) dL_law_985
      · have hw := hw.2 c113
        refine g_aload_n C dL_law_27 rfl 0 rfl ?_
        refine g_iload_n C dL_law_28 rfl 3 rfl ?_
        refine g_xld C hX hbl hbA hw.1 dL_law_29 ?_
        have hw := hw.2
        refine g_bipush (v := (31 : Int32)) C dL_law_30 (by decide) ?_
        refine g_iand C dL_law_32 ?_
        by_cases c114 : ((xs x3_1.toNatClampNeg) &&& (31 : Int32)) = 0
        · have hw := hw.1 c114
          refine g_tableIn (tgt := 156) C dL_law_33 (by rw [c114]; decide) (by rw [c114]; decide) (by rw [c114]; rfl) (by decide) ?_
          refine g_aload_n C dL_law_156 rfl 1 rfl ?_
          refine g_aload_n C dL_law_157 rfl 0 rfl ?_
          refine g_iload_n C dL_law_158 rfl 3 rfl ?_
          refine g_iconst (v := (1 : Int32)) C dL_law_159 (by decide) ?_
          refine g_iadd C dL_law_160 ?_
          refine g_xld C hX hbl hbA hw.1 dL_law_161 ?_
          have hw := hw.2
          refine g_aload_n C dL_law_162 rfl 0 rfl ?_
          refine g_iload_n C dL_law_163 rfl 3 rfl ?_
          refine g_iconst (v := (2 : Int32)) C dL_law_164 (by decide) ?_
          refine g_iadd C dL_law_165 ?_
          refine g_xld C hX hbl hbA hw.1 dL_law_166 ?_
          have hw := hw.2
          refine g_callVi (As := [.int (xs (x3_1 + (1 : Int32)).toNatClampNeg), .int (xs (x3_1 + (2 : Int32)).toNatClampNeg)]) C dL_law_167 ft_330 z1 ft_619 ft_620 (met_X10_put l hWF z1 hw) ⟨rfl, rfl, Nat.le_of_ble_eq_true rfl, Nat.le_of_ble_eq_true rfl⟩ ⟨Nat.le_of_ble_eq_true rfl, Nat.le_of_ble_eq_true rfl⟩ rfl rfl (Nat.le_of_ble_eq_true rfl) (fun r115 I115 J115 Q115 hp => ?_)
          obtain ⟨hw, eJ, hWF⟩ := hp
          have eJ : J_1 = J115 := Eq.symm eJ
          subst eJ
          try dsimp only at hw hWF
          refine g_aload_n C dL_law_170 rfl 2 rfl ?_
          refine g_aload_n C dL_law_171 rfl 0 rfl ?_
          refine g_iload_n C dL_law_172 rfl 3 rfl ?_
          refine g_iconst (v := (1 : Int32)) C dL_law_173 (by decide) ?_
          refine g_iadd C dL_law_174 ?_
          refine g_xld C hX hbl hbA hw.1 dL_law_175 ?_
          have hw := hw.2
          refine g_aload_n C dL_law_176 rfl 0 rfl ?_
          refine g_iload_n C dL_law_177 rfl 3 rfl ?_
          refine g_iconst (v := (2 : Int32)) C dL_law_178 (by decide) ?_
          refine g_iadd C dL_law_179 ?_
          refine g_xld C hX hbl hbA hw.1 dL_law_180 ?_
          have hw := hw.2
          refine g_callVi (As := [.int (xs (x3_1 + (1 : Int32)).toNatClampNeg), .int (xs (x3_1 + (2 : Int32)).toNatClampNeg)]) C dL_law_181 ft_387 z2 ft_617 ft_618 (met_X11_put l hWF z2 hw) ⟨rfl, rfl, Nat.le_of_ble_eq_true rfl, Nat.le_of_ble_eq_true rfl⟩ ⟨Nat.le_of_ble_eq_true rfl, Nat.le_of_ble_eq_true rfl⟩ rfl rfl (Nat.le_of_ble_eq_true rfl) (fun r116 I116 J116 Q116 hp => ?_)
          obtain ⟨hw, eJ, eQ, hWF⟩ := hp
          have eJ : J_1 = J116 := Eq.symm eJ
          subst eJ
          have eQ : Q115 = Q116 := Eq.symm eQ
          subst eQ
          try dsimp only at hw hWF
          refine g_icmp_eq (tgt := 978) C dL_law_184 (by decide) (fun c117 => ?_) (fun c117 => ?_)
          · have hw := hw.1 c117
            refine g_iinc (v := (x3_1 + (6 : Int32))) (lv' := [(3, .int (x3_1 + (6 : Int32))), (0, .ref b), (1, .ref (ad 0)), (2, .ref (ad 287))]) C dL_law_978 (q := 3) rfl rfl (by decide) rfl ?_
            refine g_goto C dL_law_981 (tgt := 18) (by decide) ?_
            refine g_sub [1, 2, 3, 0] rfl ?_
            exact ih_u111 I116 J_1 Q115 (x3_1 + (6 : Int32)) hw hWF
          · have hw := hw.2 c117
            refine g_iconst (v := (0 : Int32)) C dL_law_187 (by decide) ?_
            exact hw.elim
        by_cases c118 : ((xs x3_1.toNatClampNeg) &&& (31 : Int32)) = 1
        · have hw := hw.2.1 c118
          refine g_tableIn (tgt := 189) C dL_law_33 (by rw [c118]; decide) (by rw [c118]; decide) (by rw [c118]; rfl) (by decide) ?_
          refine g_aload_n C dL_law_189 rfl 1 rfl ?_
          refine g_aload_n C dL_law_190 rfl 0 rfl ?_
          refine g_iload_n C dL_law_191 rfl 3 rfl ?_
          refine g_iconst (v := (1 : Int32)) C dL_law_192 (by decide) ?_
          refine g_iadd C dL_law_193 ?_
          refine g_xld C hX hbl hbA hw.1 dL_law_194 ?_
          have hw := hw.2
          refine g_aload_n C dL_law_195 rfl 0 rfl ?_
          refine g_iload_n C dL_law_196 rfl 3 rfl ?_
          refine g_iconst (v := (2 : Int32)) C dL_law_197 (by decide) ?_
          refine g_iadd C dL_law_198 ?_
          refine g_xld C hX hbl hbA hw.1 dL_law_199 ?_
          have hw := hw.2
          refine g_callVi (As := [.int (xs (x3_1 + (1 : Int32)).toNatClampNeg), .int (xs (x3_1 + (2 : Int32)).toNatClampNeg)]) C dL_law_200 ft_330 z1 ft_623 ft_624 (met_X10_node l hWF z1 hw) ⟨rfl, rfl, Nat.le_of_ble_eq_true rfl, Nat.le_of_ble_eq_true rfl⟩ ⟨Nat.le_of_ble_eq_true rfl, Nat.le_of_ble_eq_true rfl⟩ rfl rfl (Nat.le_of_ble_eq_true rfl) (fun r119 I119 J119 Q119 hp => ?_)
          obtain ⟨hw, eJ, eQ, hWF⟩ := hp
          have eJ : J_1 = J119 := Eq.symm eJ
          subst eJ
          have eQ : Q_1 = Q119 := Eq.symm eQ
          subst eQ
          try dsimp only at hw hWF
          refine g_aload_n C dL_law_203 rfl 2 rfl ?_
          refine g_aload_n C dL_law_204 rfl 0 rfl ?_
          refine g_iload_n C dL_law_205 rfl 3 rfl ?_
          refine g_iconst (v := (1 : Int32)) C dL_law_206 (by decide) ?_
          refine g_iadd C dL_law_207 ?_
          refine g_xld C hX hbl hbA hw.1 dL_law_208 ?_
          have hw := hw.2
          refine g_aload_n C dL_law_209 rfl 0 rfl ?_
          refine g_iload_n C dL_law_210 rfl 3 rfl ?_
          refine g_iconst (v := (2 : Int32)) C dL_law_211 (by decide) ?_
          refine g_iadd C dL_law_212 ?_
          refine g_xld C hX hbl hbA hw.1 dL_law_213 ?_
          have hw := hw.2
          refine g_callVi (As := [.int (xs (x3_1 + (1 : Int32)).toNatClampNeg), .int (xs (x3_1 + (2 : Int32)).toNatClampNeg)]) C dL_law_214 ft_387 z2 ft_621 ft_622 (met_X11_node l hWF z2 hw) ⟨rfl, rfl, Nat.le_of_ble_eq_true rfl, Nat.le_of_ble_eq_true rfl⟩ ⟨Nat.le_of_ble_eq_true rfl, Nat.le_of_ble_eq_true rfl⟩ rfl rfl (Nat.le_of_ble_eq_true rfl) (fun r120 I120 J120 Q120 hp => ?_)
          obtain ⟨hw, eJ, eQ, hWF⟩ := hp
          have eJ : J_1 = J120 := Eq.symm eJ
          subst eJ
          have eQ : Q_1 = Q120 := Eq.symm eQ
          subst eQ
          try dsimp only at hw hWF
          refine g_icmp_eq (tgt := 978) C dL_law_217 (by decide) (fun c121 => ?_) (fun c121 => ?_)
          · have hw := hw.1 c121
            refine g_iinc (v := (x3_1 + (6 : Int32))) (lv' := [(3, .int (x3_1 + (6 : Int32))), (0, .ref b), (1, .ref (ad 0)), (2, .ref (ad 287))]) C dL_law_978 (q := 3) rfl rfl (by decide) rfl ?_
            refine g_goto C dL_law_981 (tgt := 18) (by decide) ?_
            refine g_sub [1, 2, 3, 0] rfl ?_
            exact ih_u111 I120 J_1 Q_1 (x3_1 + (6 : Int32)) hw hWF
          · have hw := hw.2 c121
            refine g_iconst (v := (0 : Int32)) C dL_law_220 (by decide) ?_
            exact hw.elim
        by_cases c122 : ((xs x3_1.toNatClampNeg) &&& (31 : Int32)) = 2
        · have hw := hw.2.2.1 c122
          refine g_tableIn (tgt := 222) C dL_law_33 (by rw [c122]; decide) (by rw [c122]; decide) (by rw [c122]; rfl) (by decide) ?_
          refine g_aload_n C dL_law_222 rfl 1 rfl ?_
          refine g_aload_n C dL_law_223 rfl 0 rfl ?_
          refine g_iload_n C dL_law_224 rfl 3 rfl ?_
          refine g_iconst (v := (1 : Int32)) C dL_law_225 (by decide) ?_
          refine g_iadd C dL_law_226 ?_
          refine g_xld C hX hbl hbA hw.1 dL_law_227 ?_
          have hw := hw.2
          refine g_aload_n C dL_law_228 rfl 0 rfl ?_
          refine g_iload_n C dL_law_229 rfl 3 rfl ?_
          refine g_iconst (v := (2 : Int32)) C dL_law_230 (by decide) ?_
          refine g_iadd C dL_law_231 ?_
          refine g_xld C hX hbl hbA hw.1 dL_law_232 ?_
          have hw := hw.2
          refine g_callVi (As := [.int (xs (x3_1 + (1 : Int32)).toNatClampNeg), .int (xs (x3_1 + (2 : Int32)).toNatClampNeg)]) C dL_law_233 ft_330 z1 ft_627 ft_628 (met_X10_sum l hWF z1 hw) ⟨rfl, rfl, Nat.le_of_ble_eq_true rfl, Nat.le_of_ble_eq_true rfl⟩ ⟨Nat.le_of_ble_eq_true rfl, Nat.le_of_ble_eq_true rfl⟩ rfl rfl (Nat.le_of_ble_eq_true rfl) (fun r123 I123 J123 Q123 hp => ?_)
          obtain ⟨hw, eI, eJ, eQ, hWF⟩ := hp
          have eI : I_1 = I123 := Eq.symm eI
          subst eI
          have eJ : J_1 = J123 := Eq.symm eJ
          subst eJ
          have eQ : Q_1 = Q123 := Eq.symm eQ
          subst eQ
          try dsimp only at hw hWF
          refine g_aload_n C dL_law_236 rfl 2 rfl ?_
          refine g_aload_n C dL_law_237 rfl 0 rfl ?_
          refine g_iload_n C dL_law_238 rfl 3 rfl ?_
          refine g_iconst (v := (1 : Int32)) C dL_law_239 (by decide) ?_
          refine g_iadd C dL_law_240 ?_
          refine g_xld C hX hbl hbA hw.1 dL_law_241 ?_
          have hw := hw.2
          refine g_aload_n C dL_law_242 rfl 0 rfl ?_
          refine g_iload_n C dL_law_243 rfl 3 rfl ?_
          refine g_iconst (v := (2 : Int32)) C dL_law_244 (by decide) ?_
          refine g_iadd C dL_law_245 ?_
          refine g_xld C hX hbl hbA hw.1 dL_law_246 ?_
          have hw := hw.2
          refine g_callVi (As := [.int (xs (x3_1 + (1 : Int32)).toNatClampNeg), .int (xs (x3_1 + (2 : Int32)).toNatClampNeg)]) C dL_law_247 ft_387 z2 ft_625 ft_626 (met_X11_sum l hWF z2 hw) ⟨rfl, rfl, Nat.le_of_ble_eq_true rfl, Nat.le_of_ble_eq_true rfl⟩ ⟨Nat.le_of_ble_eq_true rfl, Nat.le_of_ble_eq_true rfl⟩ rfl rfl (Nat.le_of_ble_eq_true rfl) (fun r124 I124 J124 Q124 hp => ?_)
          obtain ⟨hw, eI, eJ, eQ, hWF⟩ := hp
          have eI : I_1 = I124 := Eq.symm eI
          subst eI
          have eJ : J_1 = J124 := Eq.symm eJ
          subst eJ
          have eQ : Q_1 = Q124 := Eq.symm eQ
          subst eQ
          try dsimp only at hw hWF
          refine g_icmp_eq (tgt := 978) C dL_law_250 (by decide) (fun c125 => ?_) (fun c125 => ?_)
          · have hw := hw.1 c125
            refine g_iinc (v := (x3_1 + (6 : Int32))) (lv' := [(3, .int (x3_1 + (6 : Int32))), (0, .ref b), (1, .ref (ad 0)), (2, .ref (ad 287))]) C dL_law_978 (q := 3) rfl rfl (by decide) rfl ?_
            refine g_goto C dL_law_981 (tgt := 18) (by decide) ?_
            refine g_sub [1, 2, 3, 0] rfl ?_
            exact ih_u111 I_1 J_1 Q_1 (x3_1 + (6 : Int32)) hw hWF
          · have hw := hw.2 c125
            refine g_iconst (v := (0 : Int32)) C dL_law_253 (by decide) ?_
            exact hw.elim
        by_cases c126 : ((xs x3_1.toNatClampNeg) &&& (31 : Int32)) = 3
        · have hw := hw.2.2.2.1 c126
          refine g_tableIn (tgt := 255) C dL_law_33 (by rw [c126]; decide) (by rw [c126]; decide) (by rw [c126]; rfl) (by decide) ?_
          refine g_aload_n C dL_law_255 rfl 1 rfl ?_
          refine g_aload_n C dL_law_256 rfl 0 rfl ?_
          refine g_iload_n C dL_law_257 rfl 3 rfl ?_
          refine g_iconst (v := (1 : Int32)) C dL_law_258 (by decide) ?_
          refine g_iadd C dL_law_259 ?_
          refine g_xld C hX hbl hbA hw.1 dL_law_260 ?_
          have hw := hw.2
          refine g_aload_n C dL_law_261 rfl 0 rfl ?_
          refine g_iload_n C dL_law_262 rfl 3 rfl ?_
          refine g_iconst (v := (2 : Int32)) C dL_law_263 (by decide) ?_
          refine g_iadd C dL_law_264 ?_
          refine g_xld C hX hbl hbA hw.1 dL_law_265 ?_
          have hw := hw.2
          refine g_callVi (As := [.int (xs (x3_1 + (1 : Int32)).toNatClampNeg), .int (xs (x3_1 + (2 : Int32)).toNatClampNeg)]) C dL_law_266 ft_330 z1 ft_631 ft_632 (met_X10_knows l hWF z1 hw) ⟨rfl, rfl, Nat.le_of_ble_eq_true rfl, Nat.le_of_ble_eq_true rfl⟩ ⟨Nat.le_of_ble_eq_true rfl, Nat.le_of_ble_eq_true rfl⟩ rfl rfl (Nat.le_of_ble_eq_true rfl) (fun r127 I127 J127 Q127 hp => ?_)
          obtain ⟨hw, eI, eJ, eQ, hWF⟩ := hp
          have eI : I_1 = I127 := Eq.symm eI
          subst eI
          have eJ : J_1 = J127 := Eq.symm eJ
          subst eJ
          have eQ : Q_1 = Q127 := Eq.symm eQ
          subst eQ
          try dsimp only at hw hWF
          refine g_aload_n C dL_law_269 rfl 2 rfl ?_
          refine g_aload_n C dL_law_270 rfl 0 rfl ?_
          refine g_iload_n C dL_law_271 rfl 3 rfl ?_
          refine g_iconst (v := (1 : Int32)) C dL_law_272 (by decide) ?_
          refine g_iadd C dL_law_273 ?_
          refine g_xld C hX hbl hbA hw.1 dL_law_274 ?_
          have hw := hw.2
          refine g_aload_n C dL_law_275 rfl 0 rfl ?_
          refine g_iload_n C dL_law_276 rfl 3 rfl ?_
          refine g_iconst (v := (2 : Int32)) C dL_law_277 (by decide) ?_
          refine g_iadd C dL_law_278 ?_
          refine g_xld C hX hbl hbA hw.1 dL_law_279 ?_
          have hw := hw.2
          refine g_callVi (As := [.int (xs (x3_1 + (1 : Int32)).toNatClampNeg), .int (xs (x3_1 + (2 : Int32)).toNatClampNeg)]) C dL_law_280 ft_387 z2 ft_629 ft_630 (met_X11_knows l hWF z2 hw) ⟨rfl, rfl, Nat.le_of_ble_eq_true rfl, Nat.le_of_ble_eq_true rfl⟩ ⟨Nat.le_of_ble_eq_true rfl, Nat.le_of_ble_eq_true rfl⟩ rfl rfl (Nat.le_of_ble_eq_true rfl) (fun r128 I128 J128 Q128 hp => ?_)
          obtain ⟨hw, eI, eJ, eQ, hWF⟩ := hp
          have eI : I_1 = I128 := Eq.symm eI
          subst eI
          have eJ : J_1 = J128 := Eq.symm eJ
          subst eJ
          have eQ : Q_1 = Q128 := Eq.symm eQ
          subst eQ
          try dsimp only at hw hWF
          refine g_icmp_eq (tgt := 978) C dL_law_283 (by decide) (fun c129 => ?_) (fun c129 => ?_)
          · have hw := hw.1 c129
            refine g_iinc (v := (x3_1 + (6 : Int32))) (lv' := [(3, .int (x3_1 + (6 : Int32))), (0, .ref b), (1, .ref (ad 0)), (2, .ref (ad 287))]) C dL_law_978 (q := 3) rfl rfl (by decide) rfl ?_
            refine g_goto C dL_law_981 (tgt := 18) (by decide) ?_
            refine g_sub [1, 2, 3, 0] rfl ?_
            exact ih_u111 I_1 J_1 Q_1 (x3_1 + (6 : Int32)) hw hWF
          · have hw := hw.2 c129
            refine g_iconst (v := (0 : Int32)) C dL_law_286 (by decide) ?_
            exact hw.elim
        by_cases c130 : ((xs x3_1.toNatClampNeg) &&& (31 : Int32)) = 4
        · have hw := hw.2.2.2.2.1 c130
          refine g_tableIn (tgt := 288) C dL_law_33 (by rw [c130]; decide) (by rw [c130]; decide) (by rw [c130]; rfl) (by decide) ?_
          refine g_aload_n C dL_law_288 rfl 1 rfl ?_
          refine g_aload_n C dL_law_289 rfl 0 rfl ?_
          refine g_iload_n C dL_law_290 rfl 3 rfl ?_
          refine g_iconst (v := (1 : Int32)) C dL_law_291 (by decide) ?_
          refine g_iadd C dL_law_292 ?_
          refine g_xld C hX hbl hbA hw.1 dL_law_293 ?_
          have hw := hw.2
          refine g_callVi (As := [.int (xs (x3_1 + (1 : Int32)).toNatClampNeg)]) C dL_law_294 ft_330 z1 ft_635 ft_636 (met_X10_sends l hWF z1 hw) ⟨rfl, rfl, Nat.le_of_ble_eq_true rfl, Nat.le_of_ble_eq_true rfl⟩ ⟨Nat.le_of_ble_eq_true rfl, Nat.le_of_ble_eq_true rfl⟩ rfl rfl (Nat.le_of_ble_eq_true rfl) (fun r131 I131 J131 Q131 hp => ?_)
          obtain ⟨hw, eJ, eQ, hWF⟩ := hp
          have eJ : J_1 = J131 := Eq.symm eJ
          subst eJ
          have eQ : Q_1 = Q131 := Eq.symm eQ
          subst eQ
          try dsimp only at hw hWF
          refine g_aload_n C dL_law_297 rfl 2 rfl ?_
          refine g_aload_n C dL_law_298 rfl 0 rfl ?_
          refine g_iload_n C dL_law_299 rfl 3 rfl ?_
          refine g_iconst (v := (1 : Int32)) C dL_law_300 (by decide) ?_
          refine g_iadd C dL_law_301 ?_
          refine g_xld C hX hbl hbA hw.1 dL_law_302 ?_
          have hw := hw.2
          refine g_callVi (As := [.int (xs (x3_1 + (1 : Int32)).toNatClampNeg)]) C dL_law_303 ft_387 z2 ft_633 ft_634 (met_X11_sends l hWF z2 hw) ⟨rfl, rfl, Nat.le_of_ble_eq_true rfl, Nat.le_of_ble_eq_true rfl⟩ ⟨Nat.le_of_ble_eq_true rfl, Nat.le_of_ble_eq_true rfl⟩ rfl rfl (Nat.le_of_ble_eq_true rfl) (fun r132 I132 J132 Q132 hp => ?_)
          obtain ⟨hw, eJ, eQ, hWF⟩ := hp
          have eJ : J_1 = J132 := Eq.symm eJ
          subst eJ
          have eQ : Q_1 = Q132 := Eq.symm eQ
          subst eQ
          try dsimp only at hw hWF
          refine g_icmp_eq (tgt := 978) C dL_law_306 (by decide) (fun c133 => ?_) (fun c133 => ?_)
          · have hw := hw.1 c133
            refine g_iinc (v := (x3_1 + (6 : Int32))) (lv' := [(3, .int (x3_1 + (6 : Int32))), (0, .ref b), (1, .ref (ad 0)), (2, .ref (ad 287))]) C dL_law_978 (q := 3) rfl rfl (by decide) rfl ?_
            refine g_goto C dL_law_981 (tgt := 18) (by decide) ?_
            refine g_sub [1, 2, 3, 0] rfl ?_
            exact ih_u111 I132 J_1 Q_1 (x3_1 + (6 : Int32)) hw hWF
          · have hw := hw.2 c133
            refine g_iconst (v := (0 : Int32)) C dL_law_309 (by decide) ?_
            exact hw.elim
        by_cases c134 : ((xs x3_1.toNatClampNeg) &&& (31 : Int32)) = 5
        · have hw := hw.2.2.2.2.2.1 c134
          refine g_tableIn (tgt := 311) C dL_law_33 (by rw [c134]; decide) (by rw [c134]; decide) (by rw [c134]; rfl) (by decide) ?_
          refine g_aload_n C dL_law_311 rfl 1 rfl ?_
          refine g_aload_n C dL_law_312 rfl 0 rfl ?_
          refine g_iload_n C dL_law_313 rfl 3 rfl ?_
          refine g_iconst (v := (1 : Int32)) C dL_law_314 (by decide) ?_
          refine g_iadd C dL_law_315 ?_
          refine g_xld C hX hbl hbA hw.1 dL_law_316 ?_
          have hw := hw.2
          refine g_aload_n C dL_law_317 rfl 0 rfl ?_
          refine g_iload_n C dL_law_318 rfl 3 rfl ?_
          refine g_iconst (v := (2 : Int32)) C dL_law_319 (by decide) ?_
          refine g_iadd C dL_law_320 ?_
          refine g_xld C hX hbl hbA hw.1 dL_law_321 ?_
          have hw := hw.2
          refine g_callVi (As := [.int (xs (x3_1 + (1 : Int32)).toNatClampNeg), .int (xs (x3_1 + (2 : Int32)).toNatClampNeg)]) C dL_law_322 ft_330 z1 ft_639 ft_640 (met_X10_linked l hWF z1 hw) ⟨rfl, rfl, Nat.le_of_ble_eq_true rfl, Nat.le_of_ble_eq_true rfl⟩ ⟨Nat.le_of_ble_eq_true rfl, Nat.le_of_ble_eq_true rfl⟩ rfl rfl (Nat.le_of_ble_eq_true rfl) (fun r135 I135 J135 Q135 hp => ?_)
          obtain ⟨hw, eI, eJ, eQ, hWF⟩ := hp
          have eI : I_1 = I135 := Eq.symm eI
          subst eI
          have eJ : J_1 = J135 := Eq.symm eJ
          subst eJ
          have eQ : Q_1 = Q135 := Eq.symm eQ
          subst eQ
          try dsimp only at hw hWF
          refine g_aload_n C dL_law_325 rfl 2 rfl ?_
          refine g_aload_n C dL_law_326 rfl 0 rfl ?_
          refine g_iload_n C dL_law_327 rfl 3 rfl ?_
          refine g_iconst (v := (1 : Int32)) C dL_law_328 (by decide) ?_
          refine g_iadd C dL_law_329 ?_
          refine g_xld C hX hbl hbA hw.1 dL_law_330 ?_
          have hw := hw.2
          refine g_aload_n C dL_law_331 rfl 0 rfl ?_
          refine g_iload_n C dL_law_332 rfl 3 rfl ?_
          refine g_iconst (v := (2 : Int32)) C dL_law_333 (by decide) ?_
          refine g_iadd C dL_law_334 ?_
          refine g_xld C hX hbl hbA hw.1 dL_law_335 ?_
          have hw := hw.2
          refine g_callVi (As := [.int (xs (x3_1 + (1 : Int32)).toNatClampNeg), .int (xs (x3_1 + (2 : Int32)).toNatClampNeg)]) C dL_law_336 ft_387 z2 ft_637 ft_638 (met_X11_linked l hWF z2 hw) ⟨rfl, rfl, Nat.le_of_ble_eq_true rfl, Nat.le_of_ble_eq_true rfl⟩ ⟨Nat.le_of_ble_eq_true rfl, Nat.le_of_ble_eq_true rfl⟩ rfl rfl (Nat.le_of_ble_eq_true rfl) (fun r136 I136 J136 Q136 hp => ?_)
          obtain ⟨hw, eI, eJ, eQ, hWF⟩ := hp
          have eI : I_1 = I136 := Eq.symm eI
          subst eI
          have eJ : J_1 = J136 := Eq.symm eJ
          subst eJ
          have eQ : Q_1 = Q136 := Eq.symm eQ
          subst eQ
          try dsimp only at hw hWF
          refine g_icmp_eq (tgt := 978) C dL_law_339 (by decide) (fun c137 => ?_) (fun c137 => ?_)
          · have hw := hw.1 c137
            refine g_iinc (v := (x3_1 + (6 : Int32))) (lv' := [(3, .int (x3_1 + (6 : Int32))), (0, .ref b), (1, .ref (ad 0)), (2, .ref (ad 287))]) C dL_law_978 (q := 3) rfl rfl (by decide) rfl ?_
            refine g_goto C dL_law_981 (tgt := 18) (by decide) ?_
            refine g_sub [1, 2, 3, 0] rfl ?_
            exact ih_u111 I_1 J_1 Q_1 (x3_1 + (6 : Int32)) hw hWF
          · have hw := hw.2 c137
            refine g_iconst (v := (0 : Int32)) C dL_law_342 (by decide) ?_
            exact hw.elim
        by_cases c138 : ((xs x3_1.toNatClampNeg) &&& (31 : Int32)) = 6
        · have hw := hw.2.2.2.2.2.2.1 c138
          refine g_tableIn (tgt := 344) C dL_law_33 (by rw [c138]; decide) (by rw [c138]; decide) (by rw [c138]; rfl) (by decide) ?_
          refine g_aload_n C dL_law_344 rfl 1 rfl ?_
          refine g_aload_n C dL_law_345 rfl 0 rfl ?_
          refine g_iload_n C dL_law_346 rfl 3 rfl ?_
          refine g_iconst (v := (1 : Int32)) C dL_law_347 (by decide) ?_
          refine g_iadd C dL_law_348 ?_
          refine g_xld C hX hbl hbA hw.1 dL_law_349 ?_
          have hw := hw.2
          refine g_callVi (As := [.int (xs (x3_1 + (1 : Int32)).toNatClampNeg)]) C dL_law_350 ft_330 z1 ft_643 ft_644 (met_X10_count l hWF z1 hw) ⟨rfl, rfl, Nat.le_of_ble_eq_true rfl, Nat.le_of_ble_eq_true rfl⟩ ⟨Nat.le_of_ble_eq_true rfl, Nat.le_of_ble_eq_true rfl⟩ rfl rfl (Nat.le_of_ble_eq_true rfl) (fun r139 I139 J139 Q139 hp => ?_)
          obtain ⟨hw, eI, eJ, eQ, hWF⟩ := hp
          have eI : I_1 = I139 := Eq.symm eI
          subst eI
          have eJ : J_1 = J139 := Eq.symm eJ
          subst eJ
          have eQ : Q_1 = Q139 := Eq.symm eQ
          subst eQ
          try dsimp only at hw hWF
          refine g_aload_n C dL_law_353 rfl 2 rfl ?_
          refine g_aload_n C dL_law_354 rfl 0 rfl ?_
          refine g_iload_n C dL_law_355 rfl 3 rfl ?_
          refine g_iconst (v := (1 : Int32)) C dL_law_356 (by decide) ?_
          refine g_iadd C dL_law_357 ?_
          refine g_xld C hX hbl hbA hw.1 dL_law_358 ?_
          have hw := hw.2
          refine g_callVi (As := [.int (xs (x3_1 + (1 : Int32)).toNatClampNeg)]) C dL_law_359 ft_387 z2 ft_641 ft_642 (met_X11_count l hWF z2 hw) ⟨rfl, rfl, Nat.le_of_ble_eq_true rfl, Nat.le_of_ble_eq_true rfl⟩ ⟨Nat.le_of_ble_eq_true rfl, Nat.le_of_ble_eq_true rfl⟩ rfl rfl (Nat.le_of_ble_eq_true rfl) (fun r140 I140 J140 Q140 hp => ?_)
          obtain ⟨hw, eI, eJ, eQ, hWF⟩ := hp
          have eI : I_1 = I140 := Eq.symm eI
          subst eI
          have eJ : J_1 = J140 := Eq.symm eJ
          subst eJ
          have eQ : Q_1 = Q140 := Eq.symm eQ
          subst eQ
          try dsimp only at hw hWF
          refine g_icmp_eq (tgt := 978) C dL_law_362 (by decide) (fun c141 => ?_) (fun c141 => ?_)
          · have hw := hw.1 c141
            refine g_iinc (v := (x3_1 + (6 : Int32))) (lv' := [(3, .int (x3_1 + (6 : Int32))), (0, .ref b), (1, .ref (ad 0)), (2, .ref (ad 287))]) C dL_law_978 (q := 3) rfl rfl (by decide) rfl ?_
            refine g_goto C dL_law_981 (tgt := 18) (by decide) ?_
            refine g_sub [1, 2, 3, 0] rfl ?_
            exact ih_u111 I_1 J_1 Q_1 (x3_1 + (6 : Int32)) hw hWF
          · have hw := hw.2 c141
            refine g_iconst (v := (0 : Int32)) C dL_law_365 (by decide) ?_
            exact hw.elim
        by_cases c142 : ((xs x3_1.toNatClampNeg) &&& (31 : Int32)) = 7
        · have hw := hw.2.2.2.2.2.2.2.1 c142
          refine g_tableIn (tgt := 367) C dL_law_33 (by rw [c142]; decide) (by rw [c142]; decide) (by rw [c142]; rfl) (by decide) ?_
          refine g_aload_n C dL_law_367 rfl 1 rfl ?_
          refine g_aload_n C dL_law_368 rfl 0 rfl ?_
          refine g_iload_n C dL_law_369 rfl 3 rfl ?_
          refine g_iconst (v := (1 : Int32)) C dL_law_370 (by decide) ?_
          refine g_iadd C dL_law_371 ?_
          refine g_xld C hX hbl hbA hw.1 dL_law_372 ?_
          have hw := hw.2
          refine g_callVi (As := [.int (xs (x3_1 + (1 : Int32)).toNatClampNeg)]) C dL_law_373 ft_330 z1 ft_647 ft_648 (met_X10_go l hWF z1 hw) ⟨rfl, rfl, Nat.le_of_ble_eq_true rfl, Nat.le_of_ble_eq_true rfl⟩ ⟨Nat.le_of_ble_eq_true rfl, Nat.le_of_ble_eq_true rfl⟩ rfl rfl (Nat.le_of_ble_eq_true rfl) (fun r143 I143 J143 Q143 hp => ?_)
          obtain ⟨hw, eJ, hWF⟩ := hp
          have eJ : J_1 = J143 := Eq.symm eJ
          subst eJ
          try dsimp only at hw hWF
          refine g_aload_n C dL_law_376 rfl 2 rfl ?_
          refine g_aload_n C dL_law_377 rfl 0 rfl ?_
          refine g_iload_n C dL_law_378 rfl 3 rfl ?_
          refine g_iconst (v := (1 : Int32)) C dL_law_379 (by decide) ?_
          refine g_iadd C dL_law_380 ?_
          refine g_xld C hX hbl hbA hw.1 dL_law_381 ?_
          have hw := hw.2
          refine g_callVi (As := [.int (xs (x3_1 + (1 : Int32)).toNatClampNeg)]) C dL_law_382 ft_387 z2 ft_645 ft_646 (met_X11_go l hWF z2 hw) ⟨rfl, rfl, Nat.le_of_ble_eq_true rfl, Nat.le_of_ble_eq_true rfl⟩ ⟨Nat.le_of_ble_eq_true rfl, Nat.le_of_ble_eq_true rfl⟩ rfl rfl (Nat.le_of_ble_eq_true rfl) (fun r144 I144 J144 Q144 hp => ?_)
          obtain ⟨hw, eJ, eQ, hWF⟩ := hp
          have eJ : J_1 = J144 := Eq.symm eJ
          subst eJ
          have eQ : Q143 = Q144 := Eq.symm eQ
          subst eQ
          try dsimp only at hw hWF
          refine g_icmp_eq (tgt := 978) C dL_law_385 (by decide) (fun c145 => ?_) (fun c145 => ?_)
          · have hw := hw.1 c145
            refine g_iinc (v := (x3_1 + (6 : Int32))) (lv' := [(3, .int (x3_1 + (6 : Int32))), (0, .ref b), (1, .ref (ad 0)), (2, .ref (ad 287))]) C dL_law_978 (q := 3) rfl rfl (by decide) rfl ?_
            refine g_goto C dL_law_981 (tgt := 18) (by decide) ?_
            refine g_sub [1, 2, 3, 0] rfl ?_
            exact ih_u111 I144 J_1 Q143 (x3_1 + (6 : Int32)) hw hWF
          · have hw := hw.2 c145
            refine g_iconst (v := (0 : Int32)) C dL_law_388 (by decide) ?_
            exact hw.elim
        by_cases c146 : ((xs x3_1.toNatClampNeg) &&& (31 : Int32)) = 8
        · have hw := hw.2.2.2.2.2.2.2.2.1 c146
          refine g_tableIn (tgt := 390) C dL_law_33 (by rw [c146]; decide) (by rw [c146]; decide) (by rw [c146]; rfl) (by decide) ?_
          refine g_aload_n C dL_law_390 rfl 1 rfl ?_
          refine g_aload_n C dL_law_391 rfl 0 rfl ?_
          refine g_iload_n C dL_law_392 rfl 3 rfl ?_
          refine g_iconst (v := (1 : Int32)) C dL_law_393 (by decide) ?_
          refine g_iadd C dL_law_394 ?_
          refine g_xld C hX hbl hbA hw.1 dL_law_395 ?_
          have hw := hw.2
          refine g_callVi (As := [.int (xs (x3_1 + (1 : Int32)).toNatClampNeg)]) C dL_law_396 ft_330 z1 ft_651 ft_652 (met_X10_gain l hWF z1 hw) ⟨rfl, rfl, Nat.le_of_ble_eq_true rfl, Nat.le_of_ble_eq_true rfl⟩ ⟨Nat.le_of_ble_eq_true rfl, Nat.le_of_ble_eq_true rfl⟩ rfl rfl (Nat.le_of_ble_eq_true rfl) (fun r147 I147 J147 Q147 hp => ?_)
          obtain ⟨hw, eJ, eQ, hWF⟩ := hp
          have eJ : J_1 = J147 := Eq.symm eJ
          subst eJ
          have eQ : Q_1 = Q147 := Eq.symm eQ
          subst eQ
          try dsimp only at hw hWF
          refine g_aload_n C dL_law_399 rfl 2 rfl ?_
          refine g_aload_n C dL_law_400 rfl 0 rfl ?_
          refine g_iload_n C dL_law_401 rfl 3 rfl ?_
          refine g_iconst (v := (1 : Int32)) C dL_law_402 (by decide) ?_
          refine g_iadd C dL_law_403 ?_
          refine g_xld C hX hbl hbA hw.1 dL_law_404 ?_
          have hw := hw.2
          refine g_callVi (As := [.int (xs (x3_1 + (1 : Int32)).toNatClampNeg)]) C dL_law_405 ft_387 z2 ft_649 ft_650 (met_X11_gain l hWF z2 hw) ⟨rfl, rfl, Nat.le_of_ble_eq_true rfl, Nat.le_of_ble_eq_true rfl⟩ ⟨Nat.le_of_ble_eq_true rfl, Nat.le_of_ble_eq_true rfl⟩ rfl rfl (Nat.le_of_ble_eq_true rfl) (fun r148 I148 J148 Q148 hp => ?_)
          obtain ⟨hw, eJ, eQ, hWF⟩ := hp
          have eJ : J_1 = J148 := Eq.symm eJ
          subst eJ
          have eQ : Q_1 = Q148 := Eq.symm eQ
          subst eQ
          try dsimp only at hw hWF
          refine g_icmp_eq (tgt := 978) C dL_law_408 (by decide) (fun c149 => ?_) (fun c149 => ?_)
          · have hw := hw.1 c149
            refine g_iinc (v := (x3_1 + (6 : Int32))) (lv' := [(3, .int (x3_1 + (6 : Int32))), (0, .ref b), (1, .ref (ad 0)), (2, .ref (ad 287))]) C dL_law_978 (q := 3) rfl rfl (by decide) rfl ?_
            refine g_goto C dL_law_981 (tgt := 18) (by decide) ?_
            refine g_sub [1, 2, 3, 0] rfl ?_
            exact ih_u111 I148 J_1 Q_1 (x3_1 + (6 : Int32)) hw hWF
          · have hw := hw.2 c149
            refine g_iconst (v := (0 : Int32)) C dL_law_411 (by decide) ?_
            exact hw.elim
        by_cases c150 : ((xs x3_1.toNatClampNeg) &&& (31 : Int32)) = 9
        · have hw := hw.2.2.2.2.2.2.2.2.2.1 c150
          refine g_tableIn (tgt := 413) C dL_law_33 (by rw [c150]; decide) (by rw [c150]; decide) (by rw [c150]; rfl) (by decide) ?_
          refine g_aload_n C dL_law_413 rfl 1 rfl ?_
          refine g_callVi (As := []) C dL_law_414 ft_330 z1 ft_655 ft_656 (met_X10_foreseen l hWF z1 hw) ⟨rfl, rfl, Nat.le_of_ble_eq_true rfl, Nat.le_of_ble_eq_true rfl⟩ ⟨Nat.le_of_ble_eq_true rfl, Nat.le_of_ble_eq_true rfl⟩ rfl rfl (Nat.le_of_ble_eq_true rfl) (fun r151 I151 J151 Q151 hp => ?_)
          obtain ⟨hw, eJ, eQ, hWF⟩ := hp
          have eJ : J_1 = J151 := Eq.symm eJ
          subst eJ
          have eQ : Q_1 = Q151 := Eq.symm eQ
          subst eQ
          try dsimp only at hw hWF
          refine g_aload_n C dL_law_417 rfl 2 rfl ?_
          refine g_callVi (As := []) C dL_law_418 ft_387 z2 ft_653 ft_654 (met_X11_foreseen l hWF z2 hw) ⟨rfl, rfl, Nat.le_of_ble_eq_true rfl, Nat.le_of_ble_eq_true rfl⟩ ⟨Nat.le_of_ble_eq_true rfl, Nat.le_of_ble_eq_true rfl⟩ rfl rfl (Nat.le_of_ble_eq_true rfl) (fun r152 I152 J152 Q152 hp => ?_)
          obtain ⟨hw, eJ, eQ, hWF⟩ := hp
          have eJ : J_1 = J152 := Eq.symm eJ
          subst eJ
          have eQ : Q_1 = Q152 := Eq.symm eQ
          subst eQ
          try dsimp only at hw hWF
          refine g_icmp_eq (tgt := 978) C dL_law_421 (by decide) (fun c153 => ?_) (fun c153 => ?_)
          · have hw := hw.1 c153
            refine g_iinc (v := (x3_1 + (6 : Int32))) (lv' := [(3, .int (x3_1 + (6 : Int32))), (0, .ref b), (1, .ref (ad 0)), (2, .ref (ad 287))]) C dL_law_978 (q := 3) rfl rfl (by decide) rfl ?_
            refine g_goto C dL_law_981 (tgt := 18) (by decide) ?_
            refine g_sub [1, 2, 3, 0] rfl ?_
            exact ih_u111 I152 J_1 Q_1 (x3_1 + (6 : Int32)) hw hWF
          · have hw := hw.2 c153
            refine g_iconst (v := (0 : Int32)) C dL_law_424 (by decide) ?_
            exact hw.elim
        by_cases c154 : ((xs x3_1.toNatClampNeg) &&& (31 : Int32)) = 10
        · have hw := hw.2.2.2.2.2.2.2.2.2.2.1 c154
          refine g_tableIn (tgt := 426) C dL_law_33 (by rw [c154]; decide) (by rw [c154]; decide) (by rw [c154]; rfl) (by decide) ?_
          refine g_aload_n C dL_law_426 rfl 1 rfl ?_
          refine g_aload_n C dL_law_427 rfl 0 rfl ?_
          refine g_iload_n C dL_law_428 rfl 3 rfl ?_
          refine g_iconst (v := (1 : Int32)) C dL_law_429 (by decide) ?_
          refine g_iadd C dL_law_430 ?_
          refine g_xld C hX hbl hbA hw.1 dL_law_431 ?_
          have hw := hw.2
          refine g_callVi (As := [.int (xs (x3_1 + (1 : Int32)).toNatClampNeg)]) C dL_law_432 ft_330 z1 ft_659 ft_660 (met_X10_views l hWF z1 hw) ⟨rfl, rfl, Nat.le_of_ble_eq_true rfl, Nat.le_of_ble_eq_true rfl⟩ ⟨Nat.le_of_ble_eq_true rfl, Nat.le_of_ble_eq_true rfl⟩ rfl rfl (Nat.le_of_ble_eq_true rfl) (fun r155 I155 J155 Q155 hp => ?_)
          obtain ⟨hw, eJ, eQ, hWF⟩ := hp
          have eJ : J_1 = J155 := Eq.symm eJ
          subst eJ
          have eQ : Q_1 = Q155 := Eq.symm eQ
          subst eQ
          try dsimp only at hw hWF
          refine g_aload_n C dL_law_435 rfl 2 rfl ?_
          refine g_aload_n C dL_law_436 rfl 0 rfl ?_
          refine g_iload_n C dL_law_437 rfl 3 rfl ?_
          refine g_iconst (v := (1 : Int32)) C dL_law_438 (by decide) ?_
          refine g_iadd C dL_law_439 ?_
          refine g_xld C hX hbl hbA hw.1 dL_law_440 ?_
          have hw := hw.2
          refine g_callVi (As := [.int (xs (x3_1 + (1 : Int32)).toNatClampNeg)]) C dL_law_441 ft_387 z2 ft_657 ft_658 (met_X11_views l hWF z2 hw) ⟨rfl, rfl, Nat.le_of_ble_eq_true rfl, Nat.le_of_ble_eq_true rfl⟩ ⟨Nat.le_of_ble_eq_true rfl, Nat.le_of_ble_eq_true rfl⟩ rfl rfl (Nat.le_of_ble_eq_true rfl) (fun r156 I156 J156 Q156 hp => ?_)
          obtain ⟨hw, eJ, eQ, hWF⟩ := hp
          have eJ : J_1 = J156 := Eq.symm eJ
          subst eJ
          have eQ : Q_1 = Q156 := Eq.symm eQ
          subst eQ
          try dsimp only at hw hWF
          refine g_icmp_eq (tgt := 978) C dL_law_444 (by decide) (fun c157 => ?_) (fun c157 => ?_)
          · have hw := hw.1 c157
            refine g_iinc (v := (x3_1 + (6 : Int32))) (lv' := [(3, .int (x3_1 + (6 : Int32))), (0, .ref b), (1, .ref (ad 0)), (2, .ref (ad 287))]) C dL_law_978 (q := 3) rfl rfl (by decide) rfl ?_
            refine g_goto C dL_law_981 (tgt := 18) (by decide) ?_
            refine g_sub [1, 2, 3, 0] rfl ?_
            exact ih_u111 I156 J_1 Q_1 (x3_1 + (6 : Int32)) hw hWF
          · have hw := hw.2 c157
            refine g_iconst (v := (0 : Int32)) C dL_law_447 (by decide) ?_
            exact hw.elim
        by_cases c158 : ((xs x3_1.toNatClampNeg) &&& (31 : Int32)) = 11
        · have hw := hw.2.2.2.2.2.2.2.2.2.2.2.1 c158
          refine g_tableIn (tgt := 449) C dL_law_33 (by rw [c158]; decide) (by rw [c158]; decide) (by rw [c158]; rfl) (by decide) ?_
          refine g_aload_n C dL_law_449 rfl 1 rfl ?_
          refine g_aload_n C dL_law_450 rfl 0 rfl ?_
          refine g_iload_n C dL_law_451 rfl 3 rfl ?_
          refine g_iconst (v := (1 : Int32)) C dL_law_452 (by decide) ?_
          refine g_iadd C dL_law_453 ?_
          refine g_xld C hX hbl hbA hw.1 dL_law_454 ?_
          have hw := hw.2
          refine g_aload_n C dL_law_455 rfl 0 rfl ?_
          refine g_iload_n C dL_law_456 rfl 3 rfl ?_
          refine g_iconst (v := (2 : Int32)) C dL_law_457 (by decide) ?_
          refine g_iadd C dL_law_458 ?_
          refine g_xld C hX hbl hbA hw.1 dL_law_459 ?_
          have hw := hw.2
          refine g_callVi (As := [.int (xs (x3_1 + (1 : Int32)).toNatClampNeg), .int (xs (x3_1 + (2 : Int32)).toNatClampNeg)]) C dL_law_460 ft_330 z1 ft_663 ft_664 (met_X10_view l hWF z1 hw) ⟨rfl, rfl, Nat.le_of_ble_eq_true rfl, Nat.le_of_ble_eq_true rfl⟩ ⟨Nat.le_of_ble_eq_true rfl, Nat.le_of_ble_eq_true rfl⟩ rfl rfl (Nat.le_of_ble_eq_true rfl) (fun r159 I159 J159 Q159 hp => ?_)
          obtain ⟨hw, eJ, eQ, hWF⟩ := hp
          have eJ : J_1 = J159 := Eq.symm eJ
          subst eJ
          have eQ : Q_1 = Q159 := Eq.symm eQ
          subst eQ
          try dsimp only at hw hWF
          refine g_aload_n C dL_law_463 rfl 2 rfl ?_
          refine g_aload_n C dL_law_464 rfl 0 rfl ?_
          refine g_iload_n C dL_law_465 rfl 3 rfl ?_
          refine g_iconst (v := (1 : Int32)) C dL_law_466 (by decide) ?_
          refine g_iadd C dL_law_467 ?_
          refine g_xld C hX hbl hbA hw.1 dL_law_468 ?_
          have hw := hw.2
          refine g_aload_n C dL_law_469 rfl 0 rfl ?_
          refine g_iload_n C dL_law_470 rfl 3 rfl ?_
          refine g_iconst (v := (2 : Int32)) C dL_law_471 (by decide) ?_
          refine g_iadd C dL_law_472 ?_
          refine g_xld C hX hbl hbA hw.1 dL_law_473 ?_
          have hw := hw.2
          refine g_callVi (As := [.int (xs (x3_1 + (1 : Int32)).toNatClampNeg), .int (xs (x3_1 + (2 : Int32)).toNatClampNeg)]) C dL_law_474 ft_387 z2 ft_661 ft_662 (met_X11_view l hWF z2 hw) ⟨rfl, rfl, Nat.le_of_ble_eq_true rfl, Nat.le_of_ble_eq_true rfl⟩ ⟨Nat.le_of_ble_eq_true rfl, Nat.le_of_ble_eq_true rfl⟩ rfl rfl (Nat.le_of_ble_eq_true rfl) (fun r160 I160 J160 Q160 hp => ?_)
          obtain ⟨hw, eJ, eQ, hWF⟩ := hp
          have eJ : J_1 = J160 := Eq.symm eJ
          subst eJ
          have eQ : Q_1 = Q160 := Eq.symm eQ
          subst eQ
          try dsimp only at hw hWF
          refine g_icmp_eq (tgt := 978) C dL_law_477 (by decide) (fun c161 => ?_) (fun c161 => ?_)
          · have hw := hw.1 c161
            refine g_iinc (v := (x3_1 + (6 : Int32))) (lv' := [(3, .int (x3_1 + (6 : Int32))), (0, .ref b), (1, .ref (ad 0)), (2, .ref (ad 287))]) C dL_law_978 (q := 3) rfl rfl (by decide) rfl ?_
            refine g_goto C dL_law_981 (tgt := 18) (by decide) ?_
            refine g_sub [1, 2, 3, 0] rfl ?_
            exact ih_u111 I160 J_1 Q_1 (x3_1 + (6 : Int32)) hw hWF
          · have hw := hw.2 c161
            refine g_iconst (v := (0 : Int32)) C dL_law_480 (by decide) ?_
            exact hw.elim
        by_cases c162 : ((xs x3_1.toNatClampNeg) &&& (31 : Int32)) = 12
        · have hw := hw.2.2.2.2.2.2.2.2.2.2.2.2.1 c162
          refine g_tableIn (tgt := 482) C dL_law_33 (by rw [c162]; decide) (by rw [c162]; decide) (by rw [c162]; rfl) (by decide) ?_
          refine g_aload_n C dL_law_482 rfl 1 rfl ?_
          refine g_aload_n C dL_law_483 rfl 0 rfl ?_
          refine g_iload_n C dL_law_484 rfl 3 rfl ?_
          refine g_iconst (v := (1 : Int32)) C dL_law_485 (by decide) ?_
          refine g_iadd C dL_law_486 ?_
          refine g_xld C hX hbl hbA hw.1 dL_law_487 ?_
          have hw := hw.2
          refine g_aload_n C dL_law_488 rfl 0 rfl ?_
          refine g_iload_n C dL_law_489 rfl 3 rfl ?_
          refine g_iconst (v := (2 : Int32)) C dL_law_490 (by decide) ?_
          refine g_iadd C dL_law_491 ?_
          refine g_xld C hX hbl hbA hw.1 dL_law_492 ?_
          have hw := hw.2
          refine g_callVl (As := [.int (xs (x3_1 + (1 : Int32)).toNatClampNeg), .int (xs (x3_1 + (2 : Int32)).toNatClampNeg)]) C dL_law_493 ft_330 z1 ft_667 ft_668 (met_X10_joined l hWF z1 hw) ⟨rfl, rfl, Nat.le_of_ble_eq_true rfl, Nat.le_of_ble_eq_true rfl⟩ ⟨Nat.le_of_ble_eq_true rfl, Nat.le_of_ble_eq_true rfl⟩ rfl rfl (Nat.le_of_ble_eq_true rfl) (fun r163 I163 J163 Q163 hp => ?_)
          obtain ⟨hw, eI, eQ, hWF⟩ := hp
          have eI : I_1 = I163 := Eq.symm eI
          subst eI
          have eQ : Q_1 = Q163 := Eq.symm eQ
          subst eQ
          try dsimp only at hw hWF
          refine g_aload_n C dL_law_496 rfl 2 rfl ?_
          refine g_aload_n C dL_law_497 rfl 0 rfl ?_
          refine g_iload_n C dL_law_498 rfl 3 rfl ?_
          refine g_iconst (v := (1 : Int32)) C dL_law_499 (by decide) ?_
          refine g_iadd C dL_law_500 ?_
          refine g_xld C hX hbl hbA hw.1 dL_law_501 ?_
          have hw := hw.2
          refine g_aload_n C dL_law_502 rfl 0 rfl ?_
          refine g_iload_n C dL_law_503 rfl 3 rfl ?_
          refine g_iconst (v := (2 : Int32)) C dL_law_504 (by decide) ?_
          refine g_iadd C dL_law_505 ?_
          refine g_xld C hX hbl hbA hw.1 dL_law_506 ?_
          have hw := hw.2
          refine g_callVl (As := [.int (xs (x3_1 + (1 : Int32)).toNatClampNeg), .int (xs (x3_1 + (2 : Int32)).toNatClampNeg)]) C dL_law_507 ft_387 z2 ft_665 ft_666 (met_X11_joined l hWF z2 hw) ⟨rfl, rfl, Nat.le_of_ble_eq_true rfl, Nat.le_of_ble_eq_true rfl⟩ ⟨Nat.le_of_ble_eq_true rfl, Nat.le_of_ble_eq_true rfl⟩ rfl rfl (Nat.le_of_ble_eq_true rfl) (fun r164 I164 J164 Q164 hp => ?_)
          obtain ⟨hw, eI, eQ, hWF⟩ := hp
          have eI : I_1 = I164 := Eq.symm eI
          subst eI
          have eQ : Q_1 = Q164 := Eq.symm eQ
          subst eQ
          try dsimp only at hw hWF
          refine g_lcmp C dL_law_510 ?_
          refine g_if_eq (tgt := 978) C dL_law_511 (by decide) (fun c165 => ?_) (fun c165 => ?_)
          · have hw := hw.1 c165
            refine g_iinc (v := (x3_1 + (6 : Int32))) (lv' := [(3, .int (x3_1 + (6 : Int32))), (0, .ref b), (1, .ref (ad 0)), (2, .ref (ad 287))]) C dL_law_978 (q := 3) rfl rfl (by decide) rfl ?_
            refine g_goto C dL_law_981 (tgt := 18) (by decide) ?_
            refine g_sub [1, 2, 3, 0] rfl ?_
            exact ih_u111 I_1 J164 Q_1 (x3_1 + (6 : Int32)) hw hWF
          · have hw := hw.2 c165
            refine g_iconst (v := (0 : Int32)) C dL_law_514 (by decide) ?_
            exact hw.elim
        by_cases c166 : ((xs x3_1.toNatClampNeg) &&& (31 : Int32)) = 13
        · have hw := hw.2.2.2.2.2.2.2.2.2.2.2.2.2.1 c166
          refine g_tableIn (tgt := 516) C dL_law_33 (by rw [c166]; decide) (by rw [c166]; decide) (by rw [c166]; rfl) (by decide) ?_
          refine g_aload_n C dL_law_516 rfl 1 rfl ?_
          refine g_aload_n C dL_law_517 rfl 0 rfl ?_
          refine g_iload_n C dL_law_518 rfl 3 rfl ?_
          refine g_iconst (v := (1 : Int32)) C dL_law_519 (by decide) ?_
          refine g_iadd C dL_law_520 ?_
          refine g_xld C hX hbl hbA hw.1 dL_law_521 ?_
          have hw := hw.2
          refine g_aload_n C dL_law_522 rfl 0 rfl ?_
          refine g_iload_n C dL_law_523 rfl 3 rfl ?_
          refine g_iconst (v := (2 : Int32)) C dL_law_524 (by decide) ?_
          refine g_iadd C dL_law_525 ?_
          refine g_xld C hX hbl hbA hw.1 dL_law_526 ?_
          have hw := hw.2
          refine g_callVi (As := [.int (xs (x3_1 + (1 : Int32)).toNatClampNeg), .int (xs (x3_1 + (2 : Int32)).toNatClampNeg)]) C dL_law_527 ft_330 z1 ft_671 ft_672 (met_X10_tell l hWF z1 hw) ⟨rfl, rfl, Nat.le_of_ble_eq_true rfl, Nat.le_of_ble_eq_true rfl⟩ ⟨Nat.le_of_ble_eq_true rfl, Nat.le_of_ble_eq_true rfl⟩ rfl rfl (Nat.le_of_ble_eq_true rfl) (fun r167 I167 J167 Q167 hp => ?_)
          obtain ⟨hw, eJ, hWF⟩ := hp
          have eJ : J_1 = J167 := Eq.symm eJ
          subst eJ
          try dsimp only at hw hWF
          refine g_aload_n C dL_law_530 rfl 2 rfl ?_
          refine g_aload_n C dL_law_531 rfl 0 rfl ?_
          refine g_iload_n C dL_law_532 rfl 3 rfl ?_
          refine g_iconst (v := (1 : Int32)) C dL_law_533 (by decide) ?_
          refine g_iadd C dL_law_534 ?_
          refine g_xld C hX hbl hbA hw.1 dL_law_535 ?_
          have hw := hw.2
          refine g_aload_n C dL_law_536 rfl 0 rfl ?_
          refine g_iload_n C dL_law_537 rfl 3 rfl ?_
          refine g_iconst (v := (2 : Int32)) C dL_law_538 (by decide) ?_
          refine g_iadd C dL_law_539 ?_
          refine g_xld C hX hbl hbA hw.1 dL_law_540 ?_
          have hw := hw.2
          refine g_callVi (As := [.int (xs (x3_1 + (1 : Int32)).toNatClampNeg), .int (xs (x3_1 + (2 : Int32)).toNatClampNeg)]) C dL_law_541 ft_387 z2 ft_669 ft_670 (met_X11_tell l hWF z2 hw) ⟨rfl, rfl, Nat.le_of_ble_eq_true rfl, Nat.le_of_ble_eq_true rfl⟩ ⟨Nat.le_of_ble_eq_true rfl, Nat.le_of_ble_eq_true rfl⟩ rfl rfl (Nat.le_of_ble_eq_true rfl) (fun r168 I168 J168 Q168 hp => ?_)
          obtain ⟨hw, eJ, eQ, hWF⟩ := hp
          have eJ : J_1 = J168 := Eq.symm eJ
          subst eJ
          have eQ : Q167 = Q168 := Eq.symm eQ
          subst eQ
          try dsimp only at hw hWF
          refine g_icmp_eq (tgt := 978) C dL_law_544 (by decide) (fun c169 => ?_) (fun c169 => ?_)
          · have hw := hw.1 c169
            refine g_iinc (v := (x3_1 + (6 : Int32))) (lv' := [(3, .int (x3_1 + (6 : Int32))), (0, .ref b), (1, .ref (ad 0)), (2, .ref (ad 287))]) C dL_law_978 (q := 3) rfl rfl (by decide) rfl ?_
            refine g_goto C dL_law_981 (tgt := 18) (by decide) ?_
            refine g_sub [1, 2, 3, 0] rfl ?_
            exact ih_u111 I168 J_1 Q167 (x3_1 + (6 : Int32)) hw hWF
          · have hw := hw.2 c169
            refine g_iconst (v := (0 : Int32)) C dL_law_547 (by decide) ?_
            exact hw.elim
        by_cases c170 : ((xs x3_1.toNatClampNeg) &&& (31 : Int32)) = 14
        · have hw := hw.2.2.2.2.2.2.2.2.2.2.2.2.2.2.1 c170
          refine g_tableIn (tgt := 549) C dL_law_33 (by rw [c170]; decide) (by rw [c170]; decide) (by rw [c170]; rfl) (by decide) ?_
          refine g_aload_n C dL_law_549 rfl 1 rfl ?_
          refine g_aload_n C dL_law_550 rfl 0 rfl ?_
          refine g_iload_n C dL_law_551 rfl 3 rfl ?_
          refine g_iconst (v := (1 : Int32)) C dL_law_552 (by decide) ?_
          refine g_iadd C dL_law_553 ?_
          refine g_xld C hX hbl hbA hw.1 dL_law_554 ?_
          have hw := hw.2
          refine g_callVi (As := [.int (xs (x3_1 + (1 : Int32)).toNatClampNeg)]) C dL_law_555 ft_330 z1 ft_675 ft_676 (met_X10_type l hWF z1 hw) ⟨rfl, rfl, Nat.le_of_ble_eq_true rfl, Nat.le_of_ble_eq_true rfl⟩ ⟨Nat.le_of_ble_eq_true rfl, Nat.le_of_ble_eq_true rfl⟩ rfl rfl (Nat.le_of_ble_eq_true rfl) (fun r171 I171 J171 Q171 hp => ?_)
          obtain ⟨hw, eJ, eQ, hWF⟩ := hp
          have eJ : J_1 = J171 := Eq.symm eJ
          subst eJ
          have eQ : Q_1 = Q171 := Eq.symm eQ
          subst eQ
          try dsimp only at hw hWF
          refine g_aload_n C dL_law_558 rfl 2 rfl ?_
          refine g_aload_n C dL_law_559 rfl 0 rfl ?_
          refine g_iload_n C dL_law_560 rfl 3 rfl ?_
          refine g_iconst (v := (1 : Int32)) C dL_law_561 (by decide) ?_
          refine g_iadd C dL_law_562 ?_
          refine g_xld C hX hbl hbA hw.1 dL_law_563 ?_
          have hw := hw.2
          refine g_callVi (As := [.int (xs (x3_1 + (1 : Int32)).toNatClampNeg)]) C dL_law_564 ft_387 z2 ft_673 ft_674 (met_X11_type l hWF z2 hw) ⟨rfl, rfl, Nat.le_of_ble_eq_true rfl, Nat.le_of_ble_eq_true rfl⟩ ⟨Nat.le_of_ble_eq_true rfl, Nat.le_of_ble_eq_true rfl⟩ rfl rfl (Nat.le_of_ble_eq_true rfl) (fun r172 I172 J172 Q172 hp => ?_)
          obtain ⟨hw, eJ, eQ, hWF⟩ := hp
          have eJ : J_1 = J172 := Eq.symm eJ
          subst eJ
          have eQ : Q_1 = Q172 := Eq.symm eQ
          subst eQ
          try dsimp only at hw hWF
          refine g_icmp_eq (tgt := 978) C dL_law_567 (by decide) (fun c173 => ?_) (fun c173 => ?_)
          · have hw := hw.1 c173
            refine g_iinc (v := (x3_1 + (6 : Int32))) (lv' := [(3, .int (x3_1 + (6 : Int32))), (0, .ref b), (1, .ref (ad 0)), (2, .ref (ad 287))]) C dL_law_978 (q := 3) rfl rfl (by decide) rfl ?_
            refine g_goto C dL_law_981 (tgt := 18) (by decide) ?_
            refine g_sub [1, 2, 3, 0] rfl ?_
            exact ih_u111 I172 J_1 Q_1 (x3_1 + (6 : Int32)) hw hWF
          · have hw := hw.2 c173
            refine g_iconst (v := (0 : Int32)) C dL_law_570 (by decide) ?_
            exact hw.elim
        by_cases c174 : ((xs x3_1.toNatClampNeg) &&& (31 : Int32)) = 15
        · have hw := hw.2.2.2.2.2.2.2.2.2.2.2.2.2.2.2.1 c174
          refine g_tableIn (tgt := 572) C dL_law_33 (by rw [c174]; decide) (by rw [c174]; decide) (by rw [c174]; rfl) (by decide) ?_
          refine g_aload_n C dL_law_572 rfl 1 rfl ?_
          refine g_callVi (As := []) C dL_law_573 ft_330 z1 ft_679 ft_680 (met_X10_read l hWF z1 hw) ⟨rfl, rfl, Nat.le_of_ble_eq_true rfl, Nat.le_of_ble_eq_true rfl⟩ ⟨Nat.le_of_ble_eq_true rfl, Nat.le_of_ble_eq_true rfl⟩ rfl rfl (Nat.le_of_ble_eq_true rfl) (fun r175 I175 J175 Q175 hp => ?_)
          obtain ⟨hw, eJ, hWF⟩ := hp
          have eJ : J_1 = J175 := Eq.symm eJ
          subst eJ
          try dsimp only at hw hWF
          refine g_aload_n C dL_law_576 rfl 2 rfl ?_
          refine g_callVi (As := []) C dL_law_577 ft_387 z2 ft_677 ft_678 (met_X11_read l hWF z2 hw) ⟨rfl, rfl, Nat.le_of_ble_eq_true rfl, Nat.le_of_ble_eq_true rfl⟩ ⟨Nat.le_of_ble_eq_true rfl, Nat.le_of_ble_eq_true rfl⟩ rfl rfl (Nat.le_of_ble_eq_true rfl) (fun r176 I176 J176 Q176 hp => ?_)
          obtain ⟨hw, eJ, eQ, hWF⟩ := hp
          have eJ : J_1 = J176 := Eq.symm eJ
          subst eJ
          have eQ : Q175 = Q176 := Eq.symm eQ
          subst eQ
          try dsimp only at hw hWF
          refine g_icmp_eq (tgt := 978) C dL_law_580 (by decide) (fun c177 => ?_) (fun c177 => ?_)
          · have hw := hw.1 c177
            refine g_iinc (v := (x3_1 + (6 : Int32))) (lv' := [(3, .int (x3_1 + (6 : Int32))), (0, .ref b), (1, .ref (ad 0)), (2, .ref (ad 287))]) C dL_law_978 (q := 3) rfl rfl (by decide) rfl ?_
            refine g_goto C dL_law_981 (tgt := 18) (by decide) ?_
            refine g_sub [1, 2, 3, 0] rfl ?_
            exact ih_u111 I176 J_1 Q175 (x3_1 + (6 : Int32)) hw hWF
          · have hw := hw.2 c177
            refine g_iconst (v := (0 : Int32)) C dL_law_583 (by decide) ?_
            exact hw.elim
        by_cases c178 : ((xs x3_1.toNatClampNeg) &&& (31 : Int32)) = 16
        · have hw := hw.2.2.2.2.2.2.2.2.2.2.2.2.2.2.2.2.1 c178
          refine g_tableIn (tgt := 585) C dL_law_33 (by rw [c178]; decide) (by rw [c178]; decide) (by rw [c178]; rfl) (by decide) ?_
          refine g_aload_n C dL_law_585 rfl 1 rfl ?_
          refine g_aload_n C dL_law_586 rfl 0 rfl ?_
          refine g_iload_n C dL_law_587 rfl 3 rfl ?_
          refine g_iconst (v := (1 : Int32)) C dL_law_588 (by decide) ?_
          refine g_iadd C dL_law_589 ?_
          refine g_xld C hX hbl hbA hw.1 dL_law_590 ?_
          have hw := hw.2
          refine g_callVi (As := [.int (xs (x3_1 + (1 : Int32)).toNatClampNeg)]) C dL_law_591 ft_330 z1 ft_683 ft_684 (met_X10_drift l hWF z1 hw) ⟨rfl, rfl, Nat.le_of_ble_eq_true rfl, Nat.le_of_ble_eq_true rfl⟩ ⟨Nat.le_of_ble_eq_true rfl, Nat.le_of_ble_eq_true rfl⟩ rfl rfl (Nat.le_of_ble_eq_true rfl) (fun r179 I179 J179 Q179 hp => ?_)
          obtain ⟨hw, eJ, hWF⟩ := hp
          have eJ : J_1 = J179 := Eq.symm eJ
          subst eJ
          try dsimp only at hw hWF
          refine g_aload_n C dL_law_594 rfl 2 rfl ?_
          refine g_aload_n C dL_law_595 rfl 0 rfl ?_
          refine g_iload_n C dL_law_596 rfl 3 rfl ?_
          refine g_iconst (v := (1 : Int32)) C dL_law_597 (by decide) ?_
          refine g_iadd C dL_law_598 ?_
          refine g_xld C hX hbl hbA hw.1 dL_law_599 ?_
          have hw := hw.2
          refine g_callVi (As := [.int (xs (x3_1 + (1 : Int32)).toNatClampNeg)]) C dL_law_600 ft_387 z2 ft_681 ft_682 (met_X11_drift l hWF z2 hw) ⟨rfl, rfl, Nat.le_of_ble_eq_true rfl, Nat.le_of_ble_eq_true rfl⟩ ⟨Nat.le_of_ble_eq_true rfl, Nat.le_of_ble_eq_true rfl⟩ rfl rfl (Nat.le_of_ble_eq_true rfl) (fun r180 I180 J180 Q180 hp => ?_)
          obtain ⟨hw, eJ, eQ, hWF⟩ := hp
          have eJ : J_1 = J180 := Eq.symm eJ
          subst eJ
          have eQ : Q179 = Q180 := Eq.symm eQ
          subst eQ
          try dsimp only at hw hWF
          refine g_icmp_eq (tgt := 978) C dL_law_603 (by decide) (fun c181 => ?_) (fun c181 => ?_)
          · have hw := hw.1 c181
            refine g_iinc (v := (x3_1 + (6 : Int32))) (lv' := [(3, .int (x3_1 + (6 : Int32))), (0, .ref b), (1, .ref (ad 0)), (2, .ref (ad 287))]) C dL_law_978 (q := 3) rfl rfl (by decide) rfl ?_
            refine g_goto C dL_law_981 (tgt := 18) (by decide) ?_
            refine g_sub [1, 2, 3, 0] rfl ?_
            exact ih_u111 I180 J_1 Q179 (x3_1 + (6 : Int32)) hw hWF
          · have hw := hw.2 c181
            refine g_iconst (v := (0 : Int32)) C dL_law_606 (by decide) ?_
            exact hw.elim
        by_cases c182 : ((xs x3_1.toNatClampNeg) &&& (31 : Int32)) = 17
        · have hw := hw.2.2.2.2.2.2.2.2.2.2.2.2.2.2.2.2.2.1 c182
          refine g_tableIn (tgt := 608) C dL_law_33 (by rw [c182]; decide) (by rw [c182]; decide) (by rw [c182]; rfl) (by decide) ?_
          refine g_aload_n C dL_law_608 rfl 1 rfl ?_
          refine g_callVi (As := []) C dL_law_609 ft_330 z1 ft_687 ft_688 (met_X10_undo l hWF z1 hw) ⟨rfl, rfl, Nat.le_of_ble_eq_true rfl, Nat.le_of_ble_eq_true rfl⟩ ⟨Nat.le_of_ble_eq_true rfl, Nat.le_of_ble_eq_true rfl⟩ rfl rfl (Nat.le_of_ble_eq_true rfl) (fun r183 I183 J183 Q183 hp => ?_)
          obtain ⟨hw, eJ, eQ, hWF⟩ := hp
          have eJ : J_1 = J183 := Eq.symm eJ
          subst eJ
          have eQ : Q_1 = Q183 := Eq.symm eQ
          subst eQ
          try dsimp only at hw hWF
          refine g_aload_n C dL_law_612 rfl 2 rfl ?_
          refine g_callVi (As := []) C dL_law_613 ft_387 z2 ft_685 ft_686 (met_X11_undo l hWF z2 hw) ⟨rfl, rfl, Nat.le_of_ble_eq_true rfl, Nat.le_of_ble_eq_true rfl⟩ ⟨Nat.le_of_ble_eq_true rfl, Nat.le_of_ble_eq_true rfl⟩ rfl rfl (Nat.le_of_ble_eq_true rfl) (fun r184 I184 J184 Q184 hp => ?_)
          obtain ⟨hw, eJ, eQ, hWF⟩ := hp
          have eJ : J_1 = J184 := Eq.symm eJ
          subst eJ
          have eQ : Q_1 = Q184 := Eq.symm eQ
          subst eQ
          try dsimp only at hw hWF
          refine g_icmp_eq (tgt := 978) C dL_law_616 (by decide) (fun c185 => ?_) (fun c185 => ?_)
          · have hw := hw.1 c185
            refine g_iinc (v := (x3_1 + (6 : Int32))) (lv' := [(3, .int (x3_1 + (6 : Int32))), (0, .ref b), (1, .ref (ad 0)), (2, .ref (ad 287))]) C dL_law_978 (q := 3) rfl rfl (by decide) rfl ?_
            refine g_goto C dL_law_981 (tgt := 18) (by decide) ?_
            refine g_sub [1, 2, 3, 0] rfl ?_
            exact ih_u111 I184 J_1 Q_1 (x3_1 + (6 : Int32)) hw hWF
          · have hw := hw.2 c185
            refine g_iconst (v := (0 : Int32)) C dL_law_619 (by decide) ?_
            exact hw.elim
        by_cases c186 : ((xs x3_1.toNatClampNeg) &&& (31 : Int32)) = 18
        · have hw := hw.2.2.2.2.2.2.2.2.2.2.2.2.2.2.2.2.2.2.1 c186
          refine g_tableIn (tgt := 621) C dL_law_33 (by rw [c186]; decide) (by rw [c186]; decide) (by rw [c186]; rfl) (by decide) ?_
          refine g_aload_n C dL_law_621 rfl 1 rfl ?_
          refine g_aload_n C dL_law_622 rfl 0 rfl ?_
          refine g_iload_n C dL_law_623 rfl 3 rfl ?_
          refine g_iconst (v := (1 : Int32)) C dL_law_624 (by decide) ?_
          refine g_iadd C dL_law_625 ?_
          refine g_xld C hX hbl hbA hw.1 dL_law_626 ?_
          have hw := hw.2
          refine g_callVi (As := [.int (xs (x3_1 + (1 : Int32)).toNatClampNeg)]) C dL_law_627 ft_330 z1 ft_691 ft_692 (met_X10_seed l hWF z1 hw) ⟨rfl, rfl, Nat.le_of_ble_eq_true rfl, Nat.le_of_ble_eq_true rfl⟩ ⟨Nat.le_of_ble_eq_true rfl, Nat.le_of_ble_eq_true rfl⟩ rfl rfl (Nat.le_of_ble_eq_true rfl) (fun r187 I187 J187 Q187 hp => ?_)
          obtain ⟨hw, eJ, eQ, hWF⟩ := hp
          have eJ : J_1 = J187 := Eq.symm eJ
          subst eJ
          have eQ : Q_1 = Q187 := Eq.symm eQ
          subst eQ
          try dsimp only at hw hWF
          refine g_aload_n C dL_law_630 rfl 2 rfl ?_
          refine g_aload_n C dL_law_631 rfl 0 rfl ?_
          refine g_iload_n C dL_law_632 rfl 3 rfl ?_
          refine g_iconst (v := (1 : Int32)) C dL_law_633 (by decide) ?_
          refine g_iadd C dL_law_634 ?_
          refine g_xld C hX hbl hbA hw.1 dL_law_635 ?_
          have hw := hw.2
          refine g_callVi (As := [.int (xs (x3_1 + (1 : Int32)).toNatClampNeg)]) C dL_law_636 ft_387 z2 ft_689 ft_690 (met_X11_seed l hWF z2 hw) ⟨rfl, rfl, Nat.le_of_ble_eq_true rfl, Nat.le_of_ble_eq_true rfl⟩ ⟨Nat.le_of_ble_eq_true rfl, Nat.le_of_ble_eq_true rfl⟩ rfl rfl (Nat.le_of_ble_eq_true rfl) (fun r188 I188 J188 Q188 hp => ?_)
          obtain ⟨hw, eJ, eQ, hWF⟩ := hp
          have eJ : J_1 = J188 := Eq.symm eJ
          subst eJ
          have eQ : Q_1 = Q188 := Eq.symm eQ
          subst eQ
          try dsimp only at hw hWF
          refine g_icmp_eq (tgt := 978) C dL_law_639 (by decide) (fun c189 => ?_) (fun c189 => ?_)
          · have hw := hw.1 c189
            refine g_iinc (v := (x3_1 + (6 : Int32))) (lv' := [(3, .int (x3_1 + (6 : Int32))), (0, .ref b), (1, .ref (ad 0)), (2, .ref (ad 287))]) C dL_law_978 (q := 3) rfl rfl (by decide) rfl ?_
            refine g_goto C dL_law_981 (tgt := 18) (by decide) ?_
            refine g_sub [1, 2, 3, 0] rfl ?_
            exact ih_u111 I188 J_1 Q_1 (x3_1 + (6 : Int32)) hw hWF
          · have hw := hw.2 c189
            refine g_iconst (v := (0 : Int32)) C dL_law_642 (by decide) ?_
            exact hw.elim
        by_cases c190 : ((xs x3_1.toNatClampNeg) &&& (31 : Int32)) = 19
        · have hw := hw.2.2.2.2.2.2.2.2.2.2.2.2.2.2.2.2.2.2.2.1 c190
          refine g_tableIn (tgt := 644) C dL_law_33 (by rw [c190]; decide) (by rw [c190]; decide) (by rw [c190]; rfl) (by decide) ?_
          refine g_aload_n C dL_law_644 rfl 1 rfl ?_
          refine g_callVi (As := []) C dL_law_645 ft_330 z1 ft_695 ft_696 (met_X10_image l hWF z1 hw) ⟨rfl, rfl, Nat.le_of_ble_eq_true rfl, Nat.le_of_ble_eq_true rfl⟩ ⟨Nat.le_of_ble_eq_true rfl, Nat.le_of_ble_eq_true rfl⟩ rfl rfl (Nat.le_of_ble_eq_true rfl) (fun r191 I191 J191 Q191 hp => ?_)
          obtain ⟨hw, eJ, eQ, hWF⟩ := hp
          have eJ : J_1 = J191 := Eq.symm eJ
          subst eJ
          have eQ : Q_1 = Q191 := Eq.symm eQ
          subst eQ
          try dsimp only at hw hWF
          refine g_aload_n C dL_law_648 rfl 2 rfl ?_
          refine g_callVi (As := []) C dL_law_649 ft_387 z2 ft_693 ft_694 (met_X11_image l hWF z2 hw) ⟨rfl, rfl, Nat.le_of_ble_eq_true rfl, Nat.le_of_ble_eq_true rfl⟩ ⟨Nat.le_of_ble_eq_true rfl, Nat.le_of_ble_eq_true rfl⟩ rfl rfl (Nat.le_of_ble_eq_true rfl) (fun r192 I192 J192 Q192 hp => ?_)
          obtain ⟨hw, eJ, eQ, hWF⟩ := hp
          have eJ : J_1 = J192 := Eq.symm eJ
          subst eJ
          have eQ : Q_1 = Q192 := Eq.symm eQ
          subst eQ
          try dsimp only at hw hWF
          refine g_icmp_eq (tgt := 978) C dL_law_652 (by decide) (fun c193 => ?_) (fun c193 => ?_)
          · have hw := hw.1 c193
            refine g_iinc (v := (x3_1 + (6 : Int32))) (lv' := [(3, .int (x3_1 + (6 : Int32))), (0, .ref b), (1, .ref (ad 0)), (2, .ref (ad 287))]) C dL_law_978 (q := 3) rfl rfl (by decide) rfl ?_
            refine g_goto C dL_law_981 (tgt := 18) (by decide) ?_
            refine g_sub [1, 2, 3, 0] rfl ?_
            exact ih_u111 I192 J_1 Q_1 (x3_1 + (6 : Int32)) hw hWF
          · have hw := hw.2 c193
            refine g_iconst (v := (0 : Int32)) C dL_law_655 (by decide) ?_
            exact hw.elim
        by_cases c194 : ((xs x3_1.toNatClampNeg) &&& (31 : Int32)) = 20
        · have hw := hw.2.2.2.2.2.2.2.2.2.2.2.2.2.2.2.2.2.2.2.2.1 c194
          refine g_tableIn (tgt := 657) C dL_law_33 (by rw [c194]; decide) (by rw [c194]; decide) (by rw [c194]; rfl) (by decide) ?_
          refine g_aload_n C dL_law_657 rfl 1 rfl ?_
          refine g_callVi (As := []) C dL_law_658 ft_330 z1 ft_699 ft_700 (met_X10_restore l hWF z1 hw) ⟨rfl, rfl, Nat.le_of_ble_eq_true rfl, Nat.le_of_ble_eq_true rfl⟩ ⟨Nat.le_of_ble_eq_true rfl, Nat.le_of_ble_eq_true rfl⟩ rfl rfl (Nat.le_of_ble_eq_true rfl) (fun r195 I195 J195 Q195 hp => ?_)
          obtain ⟨hw, eJ, eQ, hWF⟩ := hp
          have eJ : J_1 = J195 := Eq.symm eJ
          subst eJ
          have eQ : Q_1 = Q195 := Eq.symm eQ
          subst eQ
          try dsimp only at hw hWF
          refine g_aload_n C dL_law_661 rfl 2 rfl ?_
          refine g_callVi (As := []) C dL_law_662 ft_387 z2 ft_697 ft_698 (met_X11_restore l hWF z2 hw) ⟨rfl, rfl, Nat.le_of_ble_eq_true rfl, Nat.le_of_ble_eq_true rfl⟩ ⟨Nat.le_of_ble_eq_true rfl, Nat.le_of_ble_eq_true rfl⟩ rfl rfl (Nat.le_of_ble_eq_true rfl) (fun r196 I196 J196 Q196 hp => ?_)
          obtain ⟨hw, eJ, eQ, hWF⟩ := hp
          have eJ : J_1 = J196 := Eq.symm eJ
          subst eJ
          have eQ : Q_1 = Q196 := Eq.symm eQ
          subst eQ
          try dsimp only at hw hWF
          refine g_icmp_eq (tgt := 978) C dL_law_665 (by decide) (fun c197 => ?_) (fun c197 => ?_)
          · have hw := hw.1 c197
            refine g_iinc (v := (x3_1 + (6 : Int32))) (lv' := [(3, .int (x3_1 + (6 : Int32))), (0, .ref b), (1, .ref (ad 0)), (2, .ref (ad 287))]) C dL_law_978 (q := 3) rfl rfl (by decide) rfl ?_
            refine g_goto C dL_law_981 (tgt := 18) (by decide) ?_
            refine g_sub [1, 2, 3, 0] rfl ?_
            exact ih_u111 I196 J_1 Q_1 (x3_1 + (6 : Int32)) hw hWF
          · have hw := hw.2 c197
            refine g_iconst (v := (0 : Int32)) C dL_law_668 (by decide) ?_
            exact hw.elim
        by_cases c198 : ((xs x3_1.toNatClampNeg) &&& (31 : Int32)) = 21
        · have hw := hw.2.2.2.2.2.2.2.2.2.2.2.2.2.2.2.2.2.2.2.2.2.1 c198
          refine g_tableIn (tgt := 670) C dL_law_33 (by rw [c198]; decide) (by rw [c198]; decide) (by rw [c198]; rfl) (by decide) ?_
          refine g_aload_n C dL_law_670 rfl 1 rfl ?_
          refine g_aload_n C dL_law_671 rfl 0 rfl ?_
          refine g_iload_n C dL_law_672 rfl 3 rfl ?_
          refine g_iconst (v := (1 : Int32)) C dL_law_673 (by decide) ?_
          refine g_iadd C dL_law_674 ?_
          refine g_xld C hX hbl hbA hw.1 dL_law_675 ?_
          have hw := hw.2
          refine g_aload_n C dL_law_676 rfl 0 rfl ?_
          refine g_iload_n C dL_law_677 rfl 3 rfl ?_
          refine g_iconst (v := (2 : Int32)) C dL_law_678 (by decide) ?_
          refine g_iadd C dL_law_679 ?_
          refine g_xld C hX hbl hbA hw.1 dL_law_680 ?_
          have hw := hw.2
          refine g_aload_n C dL_law_681 rfl 0 rfl ?_
          refine g_iload_n C dL_law_682 rfl 3 rfl ?_
          refine g_iconst (v := (3 : Int32)) C dL_law_683 (by decide) ?_
          refine g_iadd C dL_law_684 ?_
          refine g_xld C hX hbl hbA hw.1 dL_law_685 ?_
          have hw := hw.2
          refine g_callVi (As := [.int (xs (x3_1 + (1 : Int32)).toNatClampNeg), .int (xs (x3_1 + (2 : Int32)).toNatClampNeg), .int (xs (x3_1 + (3 : Int32)).toNatClampNeg)]) C dL_law_686 ft_330 z1 ft_703 ft_704 (met_X10_could l hWF z1 hw) ⟨rfl, rfl, Nat.le_of_ble_eq_true rfl, Nat.le_of_ble_eq_true rfl⟩ ⟨Nat.le_of_ble_eq_true rfl, Nat.le_of_ble_eq_true rfl⟩ rfl rfl (Nat.le_of_ble_eq_true rfl) (fun r199 I199 J199 Q199 hp => ?_)
          obtain ⟨hw, eJ, eQ, hWF⟩ := hp
          have eJ : J_1 = J199 := Eq.symm eJ
          subst eJ
          have eQ : Q_1 = Q199 := Eq.symm eQ
          subst eQ
          try dsimp only at hw hWF
          refine g_aload_n C dL_law_689 rfl 2 rfl ?_
          refine g_aload_n C dL_law_690 rfl 0 rfl ?_
          refine g_iload_n C dL_law_691 rfl 3 rfl ?_
          refine g_iconst (v := (1 : Int32)) C dL_law_692 (by decide) ?_
          refine g_iadd C dL_law_693 ?_
          refine g_xld C hX hbl hbA hw.1 dL_law_694 ?_
          have hw := hw.2
          refine g_aload_n C dL_law_695 rfl 0 rfl ?_
          refine g_iload_n C dL_law_696 rfl 3 rfl ?_
          refine g_iconst (v := (2 : Int32)) C dL_law_697 (by decide) ?_
          refine g_iadd C dL_law_698 ?_
          refine g_xld C hX hbl hbA hw.1 dL_law_699 ?_
          have hw := hw.2
          refine g_aload_n C dL_law_700 rfl 0 rfl ?_
          refine g_iload_n C dL_law_701 rfl 3 rfl ?_
          refine g_iconst (v := (3 : Int32)) C dL_law_702 (by decide) ?_
          refine g_iadd C dL_law_703 ?_
          refine g_xld C hX hbl hbA hw.1 dL_law_704 ?_
          have hw := hw.2
          refine g_callVi (As := [.int (xs (x3_1 + (1 : Int32)).toNatClampNeg), .int (xs (x3_1 + (2 : Int32)).toNatClampNeg), .int (xs (x3_1 + (3 : Int32)).toNatClampNeg)]) C dL_law_705 ft_387 z2 ft_701 ft_702 (met_X11_could l hWF z2 hw) ⟨rfl, rfl, Nat.le_of_ble_eq_true rfl, Nat.le_of_ble_eq_true rfl⟩ ⟨Nat.le_of_ble_eq_true rfl, Nat.le_of_ble_eq_true rfl⟩ rfl rfl (Nat.le_of_ble_eq_true rfl) (fun r200 I200 J200 Q200 hp => ?_)
          obtain ⟨hw, eI, eJ, eQ, hWF⟩ := hp
          have eI : I199 = I200 := Eq.symm eI
          subst eI
          have eJ : J_1 = J200 := Eq.symm eJ
          subst eJ
          have eQ : Q_1 = Q200 := Eq.symm eQ
          subst eQ
          try dsimp only at hw hWF
          refine g_icmp_eq (tgt := 978) C dL_law_708 (by decide) (fun c201 => ?_) (fun c201 => ?_)
          · have hw := hw.1 c201
            refine g_iinc (v := (x3_1 + (6 : Int32))) (lv' := [(3, .int (x3_1 + (6 : Int32))), (0, .ref b), (1, .ref (ad 0)), (2, .ref (ad 287))]) C dL_law_978 (q := 3) rfl rfl (by decide) rfl ?_
            refine g_goto C dL_law_981 (tgt := 18) (by decide) ?_
            refine g_sub [1, 2, 3, 0] rfl ?_
            exact ih_u111 I199 J_1 Q_1 (x3_1 + (6 : Int32)) hw hWF
          · have hw := hw.2 c201
            refine g_iconst (v := (0 : Int32)) C dL_law_711 (by decide) ?_
            exact hw.elim
        by_cases c202 : ((xs x3_1.toNatClampNeg) &&& (31 : Int32)) = 22
        · have hw := hw.2.2.2.2.2.2.2.2.2.2.2.2.2.2.2.2.2.2.2.2.2.2.1 c202
          refine g_tableIn (tgt := 713) C dL_law_33 (by rw [c202]; decide) (by rw [c202]; decide) (by rw [c202]; rfl) (by decide) ?_
          refine g_aload_n C dL_law_713 rfl 1 rfl ?_
          refine g_aload_n C dL_law_714 rfl 0 rfl ?_
          refine g_iload_n C dL_law_715 rfl 3 rfl ?_
          refine g_iconst (v := (1 : Int32)) C dL_law_716 (by decide) ?_
          refine g_iadd C dL_law_717 ?_
          refine g_xld C hX hbl hbA hw.1 dL_law_718 ?_
          have hw := hw.2
          refine g_aload_n C dL_law_719 rfl 0 rfl ?_
          refine g_iload_n C dL_law_720 rfl 3 rfl ?_
          refine g_iconst (v := (2 : Int32)) C dL_law_721 (by decide) ?_
          refine g_iadd C dL_law_722 ?_
          refine g_xld C hX hbl hbA hw.1 dL_law_723 ?_
          have hw := hw.2
          refine g_aload_n C dL_law_724 rfl 0 rfl ?_
          refine g_iload_n C dL_law_725 rfl 3 rfl ?_
          refine g_iconst (v := (3 : Int32)) C dL_law_726 (by decide) ?_
          refine g_iadd C dL_law_727 ?_
          refine g_xld C hX hbl hbA hw.1 dL_law_728 ?_
          have hw := hw.2
          refine g_aload_n C dL_law_729 rfl 0 rfl ?_
          refine g_iload_n C dL_law_730 rfl 3 rfl ?_
          refine g_iconst (v := (4 : Int32)) C dL_law_731 (by decide) ?_
          refine g_iadd C dL_law_732 ?_
          refine g_xld C hX hbl hbA hw.1 dL_law_733 ?_
          have hw := hw.2
          refine g_callVi (As := [.int (xs (x3_1 + (1 : Int32)).toNatClampNeg), .int (xs (x3_1 + (2 : Int32)).toNatClampNeg), .int (xs (x3_1 + (3 : Int32)).toNatClampNeg), .int (xs (x3_1 + (4 : Int32)).toNatClampNeg)]) C dL_law_734 ft_330 z1 ft_707 ft_708 (met_X10_film l hWF z1 hw) ⟨rfl, rfl, Nat.le_of_ble_eq_true rfl, Nat.le_of_ble_eq_true rfl⟩ ⟨Nat.le_of_ble_eq_true rfl, Nat.le_of_ble_eq_true rfl⟩ rfl rfl (Nat.le_of_ble_eq_true rfl) (fun r203 I203 J203 Q203 hp => ?_)
          obtain ⟨hw, eI, eQ, hWF⟩ := hp
          have eI : I_1 = I203 := Eq.symm eI
          subst eI
          have eQ : Q_1 = Q203 := Eq.symm eQ
          subst eQ
          try dsimp only at hw hWF
          refine g_aload_n C dL_law_737 rfl 2 rfl ?_
          refine g_aload_n C dL_law_738 rfl 0 rfl ?_
          refine g_iload_n C dL_law_739 rfl 3 rfl ?_
          refine g_iconst (v := (1 : Int32)) C dL_law_740 (by decide) ?_
          refine g_iadd C dL_law_741 ?_
          refine g_xld C hX hbl hbA hw.1 dL_law_742 ?_
          have hw := hw.2
          refine g_aload_n C dL_law_743 rfl 0 rfl ?_
          refine g_iload_n C dL_law_744 rfl 3 rfl ?_
          refine g_iconst (v := (2 : Int32)) C dL_law_745 (by decide) ?_
          refine g_iadd C dL_law_746 ?_
          refine g_xld C hX hbl hbA hw.1 dL_law_747 ?_
          have hw := hw.2
          refine g_aload_n C dL_law_748 rfl 0 rfl ?_
          refine g_iload_n C dL_law_749 rfl 3 rfl ?_
          refine g_iconst (v := (3 : Int32)) C dL_law_750 (by decide) ?_
          refine g_iadd C dL_law_751 ?_
          refine g_xld C hX hbl hbA hw.1 dL_law_752 ?_
          have hw := hw.2
          refine g_aload_n C dL_law_753 rfl 0 rfl ?_
          refine g_iload_n C dL_law_754 rfl 3 rfl ?_
          refine g_iconst (v := (4 : Int32)) C dL_law_755 (by decide) ?_
          refine g_iadd C dL_law_756 ?_
          refine g_xld C hX hbl hbA hw.1 dL_law_757 ?_
          have hw := hw.2
          refine g_callVi (As := [.int (xs (x3_1 + (1 : Int32)).toNatClampNeg), .int (xs (x3_1 + (2 : Int32)).toNatClampNeg), .int (xs (x3_1 + (3 : Int32)).toNatClampNeg), .int (xs (x3_1 + (4 : Int32)).toNatClampNeg)]) C dL_law_758 ft_387 z2 ft_705 ft_706 (met_X11_film l hWF z2 hw) ⟨rfl, rfl, Nat.le_of_ble_eq_true rfl, Nat.le_of_ble_eq_true rfl⟩ ⟨Nat.le_of_ble_eq_true rfl, Nat.le_of_ble_eq_true rfl⟩ rfl rfl (Nat.le_of_ble_eq_true rfl) (fun r204 I204 J204 Q204 hp => ?_)
          obtain ⟨hw, eI, eQ, hWF⟩ := hp
          have eI : I_1 = I204 := Eq.symm eI
          subst eI
          have eQ : Q_1 = Q204 := Eq.symm eQ
          subst eQ
          try dsimp only at hw hWF
          refine g_icmp_eq (tgt := 978) C dL_law_761 (by decide) (fun c205 => ?_) (fun c205 => ?_)
          · have hw := hw.1 c205
            refine g_iinc (v := (x3_1 + (6 : Int32))) (lv' := [(3, .int (x3_1 + (6 : Int32))), (0, .ref b), (1, .ref (ad 0)), (2, .ref (ad 287))]) C dL_law_978 (q := 3) rfl rfl (by decide) rfl ?_
            refine g_goto C dL_law_981 (tgt := 18) (by decide) ?_
            refine g_sub [1, 2, 3, 0] rfl ?_
            exact ih_u111 I_1 J204 Q_1 (x3_1 + (6 : Int32)) hw hWF
          · have hw := hw.2 c205
            refine g_iconst (v := (0 : Int32)) C dL_law_764 (by decide) ?_
            exact hw.elim
        by_cases c206 : ((xs x3_1.toNatClampNeg) &&& (31 : Int32)) = 23
        · have hw := hw.2.2.2.2.2.2.2.2.2.2.2.2.2.2.2.2.2.2.2.2.2.2.2.1 c206
          refine g_tableIn (tgt := 766) C dL_law_33 (by rw [c206]; decide) (by rw [c206]; decide) (by rw [c206]; rfl) (by decide) ?_
          refine g_aload_n C dL_law_766 rfl 1 rfl ?_
          refine g_aload_n C dL_law_767 rfl 0 rfl ?_
          refine g_iload_n C dL_law_768 rfl 3 rfl ?_
          refine g_iconst (v := (1 : Int32)) C dL_law_769 (by decide) ?_
          refine g_iadd C dL_law_770 ?_
          refine g_xld C hX hbl hbA hw.1 dL_law_771 ?_
          have hw := hw.2
          refine g_aload_n C dL_law_772 rfl 0 rfl ?_
          refine g_iload_n C dL_law_773 rfl 3 rfl ?_
          refine g_iconst (v := (2 : Int32)) C dL_law_774 (by decide) ?_
          refine g_iadd C dL_law_775 ?_
          refine g_xld C hX hbl hbA hw.1 dL_law_776 ?_
          have hw := hw.2
          refine g_aload_n C dL_law_777 rfl 0 rfl ?_
          refine g_iload_n C dL_law_778 rfl 3 rfl ?_
          refine g_iconst (v := (3 : Int32)) C dL_law_779 (by decide) ?_
          refine g_iadd C dL_law_780 ?_
          refine g_xld C hX hbl hbA hw.1 dL_law_781 ?_
          have hw := hw.2
          refine g_callVi (As := [.int (xs (x3_1 + (1 : Int32)).toNatClampNeg), .int (xs (x3_1 + (2 : Int32)).toNatClampNeg), .int (xs (x3_1 + (3 : Int32)).toNatClampNeg)]) C dL_law_782 ft_330 z1 ft_711 ft_712 (met_X10_sheet l hWF z1 hw) ⟨rfl, rfl, Nat.le_of_ble_eq_true rfl, Nat.le_of_ble_eq_true rfl⟩ ⟨Nat.le_of_ble_eq_true rfl, Nat.le_of_ble_eq_true rfl⟩ rfl rfl (Nat.le_of_ble_eq_true rfl) (fun r207 I207 J207 Q207 hp => ?_)
          obtain ⟨hw, eQ, hWF⟩ := hp
          have eQ : Q_1 = Q207 := Eq.symm eQ
          subst eQ
          try dsimp only at hw hWF
          refine g_aload_n C dL_law_785 rfl 2 rfl ?_
          refine g_aload_n C dL_law_786 rfl 0 rfl ?_
          refine g_iload_n C dL_law_787 rfl 3 rfl ?_
          refine g_iconst (v := (1 : Int32)) C dL_law_788 (by decide) ?_
          refine g_iadd C dL_law_789 ?_
          refine g_xld C hX hbl hbA hw.1 dL_law_790 ?_
          have hw := hw.2
          refine g_aload_n C dL_law_791 rfl 0 rfl ?_
          refine g_iload_n C dL_law_792 rfl 3 rfl ?_
          refine g_iconst (v := (2 : Int32)) C dL_law_793 (by decide) ?_
          refine g_iadd C dL_law_794 ?_
          refine g_xld C hX hbl hbA hw.1 dL_law_795 ?_
          have hw := hw.2
          refine g_aload_n C dL_law_796 rfl 0 rfl ?_
          refine g_iload_n C dL_law_797 rfl 3 rfl ?_
          refine g_iconst (v := (3 : Int32)) C dL_law_798 (by decide) ?_
          refine g_iadd C dL_law_799 ?_
          refine g_xld C hX hbl hbA hw.1 dL_law_800 ?_
          have hw := hw.2
          refine g_callVi (As := [.int (xs (x3_1 + (1 : Int32)).toNatClampNeg), .int (xs (x3_1 + (2 : Int32)).toNatClampNeg), .int (xs (x3_1 + (3 : Int32)).toNatClampNeg)]) C dL_law_801 ft_387 z2 ft_709 ft_710 (met_X11_sheet l hWF z2 hw) ⟨rfl, rfl, Nat.le_of_ble_eq_true rfl, Nat.le_of_ble_eq_true rfl⟩ ⟨Nat.le_of_ble_eq_true rfl, Nat.le_of_ble_eq_true rfl⟩ rfl rfl (Nat.le_of_ble_eq_true rfl) (fun r208 I208 J208 Q208 hp => ?_)
          obtain ⟨hw, eQ, hWF⟩ := hp
          have eQ : Q_1 = Q208 := Eq.symm eQ
          subst eQ
          try dsimp only at hw hWF
          refine g_icmp_eq (tgt := 978) C dL_law_804 (by decide) (fun c209 => ?_) (fun c209 => ?_)
          · have hw := hw.1 c209
            refine g_iinc (v := (x3_1 + (6 : Int32))) (lv' := [(3, .int (x3_1 + (6 : Int32))), (0, .ref b), (1, .ref (ad 0)), (2, .ref (ad 287))]) C dL_law_978 (q := 3) rfl rfl (by decide) rfl ?_
            refine g_goto C dL_law_981 (tgt := 18) (by decide) ?_
            refine g_sub [1, 2, 3, 0] rfl ?_
            exact ih_u111 I208 J208 Q_1 (x3_1 + (6 : Int32)) hw hWF
          · have hw := hw.2 c209
            refine g_iconst (v := (0 : Int32)) C dL_law_807 (by decide) ?_
            exact hw.elim
        by_cases c210 : ((xs x3_1.toNatClampNeg) &&& (31 : Int32)) = 24
        · have hw := hw.2.2.2.2.2.2.2.2.2.2.2.2.2.2.2.2.2.2.2.2.2.2.2.2.1 c210
          refine g_tableIn (tgt := 809) C dL_law_33 (by rw [c210]; decide) (by rw [c210]; decide) (by rw [c210]; rfl) (by decide) ?_
          refine g_aload_n C dL_law_809 rfl 1 rfl ?_
          refine g_aload_n C dL_law_810 rfl 0 rfl ?_
          refine g_iload_n C dL_law_811 rfl 3 rfl ?_
          refine g_iconst (v := (1 : Int32)) C dL_law_812 (by decide) ?_
          refine g_iadd C dL_law_813 ?_
          refine g_xld C hX hbl hbA hw.1 dL_law_814 ?_
          have hw := hw.2
          refine g_callVi (As := [.int (xs (x3_1 + (1 : Int32)).toNatClampNeg)]) C dL_law_815 ft_330 z1 ft_715 ft_716 (met_X10_drop l hWF z1 hw) ⟨rfl, rfl, Nat.le_of_ble_eq_true rfl, Nat.le_of_ble_eq_true rfl⟩ ⟨Nat.le_of_ble_eq_true rfl, Nat.le_of_ble_eq_true rfl⟩ rfl rfl (Nat.le_of_ble_eq_true rfl) (fun r211 I211 J211 Q211 hp => ?_)
          obtain ⟨hw, eJ, eQ, hWF⟩ := hp
          have eJ : J_1 = J211 := Eq.symm eJ
          subst eJ
          have eQ : Q_1 = Q211 := Eq.symm eQ
          subst eQ
          try dsimp only at hw hWF
          refine g_aload_n C dL_law_818 rfl 2 rfl ?_
          refine g_aload_n C dL_law_819 rfl 0 rfl ?_
          refine g_iload_n C dL_law_820 rfl 3 rfl ?_
          refine g_iconst (v := (1 : Int32)) C dL_law_821 (by decide) ?_
          refine g_iadd C dL_law_822 ?_
          refine g_xld C hX hbl hbA hw.1 dL_law_823 ?_
          have hw := hw.2
          refine g_callVi (As := [.int (xs (x3_1 + (1 : Int32)).toNatClampNeg)]) C dL_law_824 ft_387 z2 ft_713 ft_714 (met_X11_drop l hWF z2 hw) ⟨rfl, rfl, Nat.le_of_ble_eq_true rfl, Nat.le_of_ble_eq_true rfl⟩ ⟨Nat.le_of_ble_eq_true rfl, Nat.le_of_ble_eq_true rfl⟩ rfl rfl (Nat.le_of_ble_eq_true rfl) (fun r212 I212 J212 Q212 hp => ?_)
          obtain ⟨hw, eJ, eQ, hWF⟩ := hp
          have eJ : J_1 = J212 := Eq.symm eJ
          subst eJ
          have eQ : Q_1 = Q212 := Eq.symm eQ
          subst eQ
          try dsimp only at hw hWF
          refine g_icmp_eq (tgt := 978) C dL_law_827 (by decide) (fun c213 => ?_) (fun c213 => ?_)
          · have hw := hw.1 c213
            refine g_iinc (v := (x3_1 + (6 : Int32))) (lv' := [(3, .int (x3_1 + (6 : Int32))), (0, .ref b), (1, .ref (ad 0)), (2, .ref (ad 287))]) C dL_law_978 (q := 3) rfl rfl (by decide) rfl ?_
            refine g_goto C dL_law_981 (tgt := 18) (by decide) ?_
            refine g_sub [1, 2, 3, 0] rfl ?_
            exact ih_u111 I212 J_1 Q_1 (x3_1 + (6 : Int32)) hw hWF
          · have hw := hw.2 c213
            refine g_iconst (v := (0 : Int32)) C dL_law_830 (by decide) ?_
            exact hw.elim
        by_cases c214 : ((xs x3_1.toNatClampNeg) &&& (31 : Int32)) = 25
        · have hw := hw.2.2.2.2.2.2.2.2.2.2.2.2.2.2.2.2.2.2.2.2.2.2.2.2.2.1 c214
          refine g_tableIn (tgt := 832) C dL_law_33 (by rw [c214]; decide) (by rw [c214]; decide) (by rw [c214]; rfl) (by decide) ?_
          refine g_aload_n C dL_law_832 rfl 1 rfl ?_
          refine g_aload_n C dL_law_833 rfl 0 rfl ?_
          refine g_iload_n C dL_law_834 rfl 3 rfl ?_
          refine g_iconst (v := (1 : Int32)) C dL_law_835 (by decide) ?_
          refine g_iadd C dL_law_836 ?_
          refine g_xld C hX hbl hbA hw.1 dL_law_837 ?_
          have hw := hw.2
          refine g_aload_n C dL_law_838 rfl 0 rfl ?_
          refine g_iload_n C dL_law_839 rfl 3 rfl ?_
          refine g_iconst (v := (2 : Int32)) C dL_law_840 (by decide) ?_
          refine g_iadd C dL_law_841 ?_
          refine g_xld C hX hbl hbA hw.1 dL_law_842 ?_
          have hw := hw.2
          refine g_aload_n C dL_law_843 rfl 0 rfl ?_
          refine g_iload_n C dL_law_844 rfl 3 rfl ?_
          refine g_iconst (v := (3 : Int32)) C dL_law_845 (by decide) ?_
          refine g_iadd C dL_law_846 ?_
          refine g_xld C hX hbl hbA hw.1 dL_law_847 ?_
          have hw := hw.2
          refine g_aload_n C dL_law_848 rfl 0 rfl ?_
          refine g_iload_n C dL_law_849 rfl 3 rfl ?_
          refine g_iconst (v := (4 : Int32)) C dL_law_850 (by decide) ?_
          refine g_iadd C dL_law_851 ?_
          refine g_xld C hX hbl hbA hw.1 dL_law_852 ?_
          have hw := hw.2
          refine g_i2l C dL_law_853 ?_
          refine g_bipush (v := (32 : Int32)) C dL_law_854 (by decide) ?_
          refine g_lshl C dL_law_856 ?_
          refine g_aload_n C dL_law_857 rfl 0 rfl ?_
          refine g_iload_n C dL_law_858 rfl 3 rfl ?_
          refine g_iconst (v := (5 : Int32)) C dL_law_859 (by decide) ?_
          refine g_iadd C dL_law_860 ?_
          refine g_xld C hX hbl hbA hw.1 dL_law_861 ?_
          have hw := hw.2
          refine g_i2l C dL_law_862 ?_
          refine g_ldc2 C dL_law_863 ft_717 ?_
          refine g_land C dL_law_866 ?_
          refine g_lor C dL_law_867 ?_
          refine g_callVi (As := [.int (xs (x3_1 + (1 : Int32)).toNatClampNeg), .int (xs (x3_1 + (2 : Int32)).toNatClampNeg), .int (xs (x3_1 + (3 : Int32)).toNatClampNeg), .long ((((xs (x3_1 + (4 : Int32)).toNatClampNeg).toInt64) <<< ((32 : Int32).toInt64 &&& 63)) ||| (((xs (x3_1 + (5 : Int32)).toNatClampNeg).toInt64) &&& (4294967295 : Int64)))]) C dL_law_868 ft_330 z1 ft_720 ft_721 (met_X10_item l hWF z1 hw) ⟨rfl, rfl, Nat.le_of_ble_eq_true rfl, Nat.le_of_ble_eq_true rfl⟩ ⟨Nat.le_of_ble_eq_true rfl, Nat.le_of_ble_eq_true rfl⟩ rfl rfl (Nat.le_of_ble_eq_true rfl) (fun r215 I215 J215 Q215 hp => ?_)
          obtain ⟨hw, eI, eQ, hWF⟩ := hp
          have eI : I_1 = I215 := Eq.symm eI
          subst eI
          have eQ : Q_1 = Q215 := Eq.symm eQ
          subst eQ
          try dsimp only at hw hWF
          refine g_aload_n C dL_law_871 rfl 2 rfl ?_
          refine g_aload_n C dL_law_872 rfl 0 rfl ?_
          refine g_iload_n C dL_law_873 rfl 3 rfl ?_
          refine g_iconst (v := (1 : Int32)) C dL_law_874 (by decide) ?_
          refine g_iadd C dL_law_875 ?_
          refine g_xld C hX hbl hbA hw.1 dL_law_876 ?_
          have hw := hw.2
          refine g_aload_n C dL_law_877 rfl 0 rfl ?_
          refine g_iload_n C dL_law_878 rfl 3 rfl ?_
          refine g_iconst (v := (2 : Int32)) C dL_law_879 (by decide) ?_
          refine g_iadd C dL_law_880 ?_
          refine g_xld C hX hbl hbA hw.1 dL_law_881 ?_
          have hw := hw.2
          refine g_aload_n C dL_law_882 rfl 0 rfl ?_
          refine g_iload_n C dL_law_883 rfl 3 rfl ?_
          refine g_iconst (v := (3 : Int32)) C dL_law_884 (by decide) ?_
          refine g_iadd C dL_law_885 ?_
          refine g_xld C hX hbl hbA hw.1 dL_law_886 ?_
          have hw := hw.2
          refine g_aload_n C dL_law_887 rfl 0 rfl ?_
          refine g_iload_n C dL_law_888 rfl 3 rfl ?_
          refine g_iconst (v := (4 : Int32)) C dL_law_889 (by decide) ?_
          refine g_iadd C dL_law_890 ?_
          refine g_xld C hX hbl hbA hw.1 dL_law_891 ?_
          have hw := hw.2
          refine g_i2l C dL_law_892 ?_
          refine g_bipush (v := (32 : Int32)) C dL_law_893 (by decide) ?_
          refine g_lshl C dL_law_895 ?_
          refine g_aload_n C dL_law_896 rfl 0 rfl ?_
          refine g_iload_n C dL_law_897 rfl 3 rfl ?_
          refine g_iconst (v := (5 : Int32)) C dL_law_898 (by decide) ?_
          refine g_iadd C dL_law_899 ?_
          refine g_xld C hX hbl hbA hw.1 dL_law_900 ?_
          have hw := hw.2
          refine g_i2l C dL_law_901 ?_
          refine g_ldc2 C dL_law_902 ft_717 ?_
          refine g_land C dL_law_905 ?_
          refine g_lor C dL_law_906 ?_
          refine g_callVi (As := [.int (xs (x3_1 + (1 : Int32)).toNatClampNeg), .int (xs (x3_1 + (2 : Int32)).toNatClampNeg), .int (xs (x3_1 + (3 : Int32)).toNatClampNeg), .long ((((xs (x3_1 + (4 : Int32)).toNatClampNeg).toInt64) <<< ((32 : Int32).toInt64 &&& 63)) ||| (((xs (x3_1 + (5 : Int32)).toNatClampNeg).toInt64) &&& (4294967295 : Int64)))]) C dL_law_907 ft_387 z2 ft_718 ft_719 (met_X11_item l hWF z2 hw) ⟨rfl, rfl, Nat.le_of_ble_eq_true rfl, Nat.le_of_ble_eq_true rfl⟩ ⟨Nat.le_of_ble_eq_true rfl, Nat.le_of_ble_eq_true rfl⟩ rfl rfl (Nat.le_of_ble_eq_true rfl) (fun r216 I216 J216 Q216 hp => ?_)
          obtain ⟨hw, eI, eQ, hWF⟩ := hp
          have eI : I_1 = I216 := Eq.symm eI
          subst eI
          have eQ : Q_1 = Q216 := Eq.symm eQ
          subst eQ
          try dsimp only at hw hWF
          refine g_icmp_eq (tgt := 978) C dL_law_910 (by decide) (fun c217 => ?_) (fun c217 => ?_)
          · have hw := hw.1 c217
            refine g_iinc (v := (x3_1 + (6 : Int32))) (lv' := [(3, .int (x3_1 + (6 : Int32))), (0, .ref b), (1, .ref (ad 0)), (2, .ref (ad 287))]) C dL_law_978 (q := 3) rfl rfl (by decide) rfl ?_
            refine g_goto C dL_law_981 (tgt := 18) (by decide) ?_
            refine g_sub [1, 2, 3, 0] rfl ?_
            exact ih_u111 I_1 J216 Q_1 (x3_1 + (6 : Int32)) hw hWF
          · have hw := hw.2 c217
            refine g_iconst (v := (0 : Int32)) C dL_law_913 (by decide) ?_
            exact hw.elim
        by_cases c218 : ((xs x3_1.toNatClampNeg) &&& (31 : Int32)) = 26
        · have hw := hw.2.2.2.2.2.2.2.2.2.2.2.2.2.2.2.2.2.2.2.2.2.2.2.2.2.2.1 c218
          refine g_tableIn (tgt := 915) C dL_law_33 (by rw [c218]; decide) (by rw [c218]; decide) (by rw [c218]; rfl) (by decide) ?_
          refine g_aload_n C dL_law_915 rfl 1 rfl ?_
          refine g_aload_n C dL_law_916 rfl 0 rfl ?_
          refine g_iload_n C dL_law_917 rfl 3 rfl ?_
          refine g_iconst (v := (1 : Int32)) C dL_law_918 (by decide) ?_
          refine g_iadd C dL_law_919 ?_
          refine g_xld C hX hbl hbA hw.1 dL_law_920 ?_
          have hw := hw.2
          refine g_aload_n C dL_law_921 rfl 0 rfl ?_
          refine g_iload_n C dL_law_922 rfl 3 rfl ?_
          refine g_iconst (v := (2 : Int32)) C dL_law_923 (by decide) ?_
          refine g_iadd C dL_law_924 ?_
          refine g_xld C hX hbl hbA hw.1 dL_law_925 ?_
          have hw := hw.2
          refine g_aload_n C dL_law_926 rfl 0 rfl ?_
          refine g_iload_n C dL_law_927 rfl 3 rfl ?_
          refine g_iconst (v := (3 : Int32)) C dL_law_928 (by decide) ?_
          refine g_iadd C dL_law_929 ?_
          refine g_xld C hX hbl hbA hw.1 dL_law_930 ?_
          have hw := hw.2
          refine g_aload_n C dL_law_931 rfl 0 rfl ?_
          refine g_iload_n C dL_law_932 rfl 3 rfl ?_
          refine g_iconst (v := (4 : Int32)) C dL_law_933 (by decide) ?_
          refine g_iadd C dL_law_934 ?_
          refine g_xld C hX hbl hbA hw.1 dL_law_935 ?_
          have hw := hw.2
          refine g_aload_n C dL_law_936 rfl 0 rfl ?_
          refine g_iload_n C dL_law_937 rfl 3 rfl ?_
          refine g_iconst (v := (5 : Int32)) C dL_law_938 (by decide) ?_
          refine g_iadd C dL_law_939 ?_
          refine g_xld C hX hbl hbA hw.1 dL_law_940 ?_
          have hw := hw.2
          refine g_callVi (As := [.int (xs (x3_1 + (1 : Int32)).toNatClampNeg), .int (xs (x3_1 + (2 : Int32)).toNatClampNeg), .int (xs (x3_1 + (3 : Int32)).toNatClampNeg), .int (xs (x3_1 + (4 : Int32)).toNatClampNeg), .int (xs (x3_1 + (5 : Int32)).toNatClampNeg)]) C dL_law_941 ft_330 z1 ft_724 ft_725 (met_X10_copy l hWF z1 hw) ⟨rfl, rfl, Nat.le_of_ble_eq_true rfl, Nat.le_of_ble_eq_true rfl⟩ ⟨Nat.le_of_ble_eq_true rfl, Nat.le_of_ble_eq_true rfl⟩ rfl rfl (Nat.le_of_ble_eq_true rfl) (fun r219 I219 J219 Q219 hp => ?_)
          obtain ⟨hw, eI, eQ, hWF⟩ := hp
          have eI : I_1 = I219 := Eq.symm eI
          subst eI
          have eQ : Q_1 = Q219 := Eq.symm eQ
          subst eQ
          try dsimp only at hw hWF
          refine g_aload_n C dL_law_944 rfl 2 rfl ?_
          refine g_aload_n C dL_law_945 rfl 0 rfl ?_
          refine g_iload_n C dL_law_946 rfl 3 rfl ?_
          refine g_iconst (v := (1 : Int32)) C dL_law_947 (by decide) ?_
          refine g_iadd C dL_law_948 ?_
          refine g_xld C hX hbl hbA hw.1 dL_law_949 ?_
          have hw := hw.2
          refine g_aload_n C dL_law_950 rfl 0 rfl ?_
          refine g_iload_n C dL_law_951 rfl 3 rfl ?_
          refine g_iconst (v := (2 : Int32)) C dL_law_952 (by decide) ?_
          refine g_iadd C dL_law_953 ?_
          refine g_xld C hX hbl hbA hw.1 dL_law_954 ?_
          have hw := hw.2
          refine g_aload_n C dL_law_955 rfl 0 rfl ?_
          refine g_iload_n C dL_law_956 rfl 3 rfl ?_
          refine g_iconst (v := (3 : Int32)) C dL_law_957 (by decide) ?_
          refine g_iadd C dL_law_958 ?_
          refine g_xld C hX hbl hbA hw.1 dL_law_959 ?_
          have hw := hw.2
          refine g_aload_n C dL_law_960 rfl 0 rfl ?_
          refine g_iload_n C dL_law_961 rfl 3 rfl ?_
          refine g_iconst (v := (4 : Int32)) C dL_law_962 (by decide) ?_
          refine g_iadd C dL_law_963 ?_
          refine g_xld C hX hbl hbA hw.1 dL_law_964 ?_
          have hw := hw.2
          refine g_aload_n C dL_law_965 rfl 0 rfl ?_
          refine g_iload_n C dL_law_966 rfl 3 rfl ?_
          refine g_iconst (v := (5 : Int32)) C dL_law_967 (by decide) ?_
          refine g_iadd C dL_law_968 ?_
          refine g_xld C hX hbl hbA hw.1 dL_law_969 ?_
          have hw := hw.2
          refine g_callVi (As := [.int (xs (x3_1 + (1 : Int32)).toNatClampNeg), .int (xs (x3_1 + (2 : Int32)).toNatClampNeg), .int (xs (x3_1 + (3 : Int32)).toNatClampNeg), .int (xs (x3_1 + (4 : Int32)).toNatClampNeg), .int (xs (x3_1 + (5 : Int32)).toNatClampNeg)]) C dL_law_970 ft_387 z2 ft_722 ft_723 (met_X11_copy l hWF z2 hw) ⟨rfl, rfl, Nat.le_of_ble_eq_true rfl, Nat.le_of_ble_eq_true rfl⟩ ⟨Nat.le_of_ble_eq_true rfl, Nat.le_of_ble_eq_true rfl⟩ rfl rfl (Nat.le_of_ble_eq_true rfl) (fun r220 I220 J220 Q220 hp => ?_)
          obtain ⟨hw, eI, eQ, hWF⟩ := hp
          have eI : I_1 = I220 := Eq.symm eI
          subst eI
          have eQ : Q_1 = Q220 := Eq.symm eQ
          subst eQ
          try dsimp only at hw hWF
          refine g_icmp_eq (tgt := 978) C dL_law_973 (by decide) (fun c221 => ?_) (fun c221 => ?_)
          · have hw := hw.1 c221
            refine g_iinc (v := (x3_1 + (6 : Int32))) (lv' := [(3, .int (x3_1 + (6 : Int32))), (0, .ref b), (1, .ref (ad 0)), (2, .ref (ad 287))]) C dL_law_978 (q := 3) rfl rfl (by decide) rfl ?_
            refine g_goto C dL_law_981 (tgt := 18) (by decide) ?_
            refine g_sub [1, 2, 3, 0] rfl ?_
            exact ih_u111 I_1 J220 Q_1 (x3_1 + (6 : Int32)) hw hWF
          · have hw := hw.2 c221
            refine g_iconst (v := (0 : Int32)) C dL_law_976 (by decide) ?_
            exact hw.elim
        have hw := hw.2.2.2.2.2.2.2.2.2.2.2.2.2.2.2.2.2.2.2.2.2.2.2.2.2.2.2 c114 c118 c122 c126 c130 c134 c138 c142 c146 c150 c154 c158 c162 c166 c170 c174 c178 c182 c186 c190 c194 c198 c202 c206 c210 c214 c218
        refine g_tableOut (tgt := 978) C dL_law_33 (sw_out (fun v h1 h2 => by rcases (show v = 0 ∨ v = 1 ∨ v = 2 ∨ v = 3 ∨ v = 4 ∨ v = 5 ∨ v = 6 ∨ v = 7 ∨ v = 8 ∨ v = 9 ∨ v = 10 ∨ v = 11 ∨ v = 12 ∨ v = 13 ∨ v = 14 ∨ v = 15 ∨ v = 16 ∨ v = 17 ∨ v = 18 ∨ v = 19 ∨ v = 20 ∨ v = 21 ∨ v = 22 ∨ v = 23 ∨ v = 24 ∨ v = 25 ∨ v = 26 by omega) with rfl | rfl | rfl | rfl | rfl | rfl | rfl | rfl | rfl | rfl | rfl | rfl | rfl | rfl | rfl | rfl | rfl | rfl | rfl | rfl | rfl | rfl | rfl | rfl | rfl | rfl | rfl <;> first | exact c114 | exact c118 | exact c122 | exact c126 | exact c130 | exact c134 | exact c138 | exact c142 | exact c146 | exact c150 | exact c154 | exact c158 | exact c162 | exact c166 | exact c170 | exact c174 | exact c178 | exact c182 | exact c186 | exact c190 | exact c194 | exact c198 | exact c202 | exact c206 | exact c210 | exact c214 | exact c218)) (by decide) ?_
        refine g_iinc (v := (x3_1 + (6 : Int32))) (lv' := [(3, .int (x3_1 + (6 : Int32))), (0, .ref b), (1, .ref (ad 0)), (2, .ref (ad 287))]) C dL_law_978 (q := 3) rfl rfl (by decide) rfl ?_
        refine g_goto C dL_law_981 (tgt := 18) (by decide) ?_
        refine g_sub [1, 2, 3, 0] rfl ?_
        exact ih_u111 I_1 J_1 Q_1 (x3_1 + (6 : Int32)) hw hWF
  obtain ⟨n_u111, hw⟩ := hw
  exact L18_u111 n_u111 I J Q (0 : Int32) hw hWF
