/-! PURE, 17: calls that change nothing that stays, go, foreseen -/
theorem op_sum {I : KI} {J : KJ} {Q : KQ} {b : Nat} {x1 x2 : Int32} {post : Int32 → Prop} (h : Rel I J Q b) (hp : ∀ r, (∀ p2 : Int32 → Prop, p2 r → wp_X11_sum I Q 287 x1 x2 p2) → post r) : wp_X10_sum I Q 0 x1 x2 post := by
  obtain ⟨hR, π, hP, S, hs, m, hC⟩ := id h
  obtain ⟨c1, c2, c3, c4, ⟨a, ha, c5, c6⟩, hG, hb, hH⟩ := hC
  obtain ⟨⟨a0, a1, -⟩, ⟨q1, -⟩, -, -, hM⟩ := id hR.1
  unfold wp_X10_sum
  rw [a0]
  rcases nodeCase x1 (S.1 0) with ⟨v, hv, rfl⟩ | hno
  · have hv6 : v < 6 := by have := hG.1; omega
    have hB := hG.2.2.2.2.2.2.2.1 v hv6
    have hrk := rk_le8 hB.1
    refine sp_node1 c1 hG hv ⟨fun c => absurd c (by decide), fun _ => ⟨fun c => ⟨vp_in_nI hv6 (by decide), ?_⟩, fun c => hp _ (fun p2 h2 => ?_)⟩⟩
    · obtain ⟨j, hj, rfl⟩ := nI_of (x := x2) (fun z => by
        rw [Int32.lt_iff_toInt_lt] at z; rw [Int32.le_iff_toInt_le] at c; omega)
      rw [q1.2.2.1, nI_clamp (n := v) (by omega), q1.2.2.2.2.1 v hv6]
      refine sp_rank (f := S.2.2.1 v) (by rw [q1.2.2.2.2.2 v hv6]; exact c1.sp hv6) (fun t ht => hG.f31 hv6 ht) ⟨fun d => hp _ (fun p2 h2 => ?_), fun d => ⟨vp_in_nI hv6 (by decide), sp_row (f := S.2.2.1 v) (q1.2.2.2.2.2 v hv6) (c1.sp hv6) (fun t ht => hG.f31 hv6 ht) hj (hp _ (fun p2 h2 => ?_))⟩⟩
      · unfold wp_X11_sum
        exact ms_node1 hM c3 hG hv ⟨fun c => absurd c (by decide), fun _ => ⟨fun _ => ms_rank hM (c3.2.2.2 v hv6) hv6 hB.2 hrk ⟨fun _ => h2, fun c' => absurd d c'⟩, fun c' => absurd c c'⟩⟩
      · unfold wp_X11_sum
        exact ms_node1 hM c3 hG hv ⟨fun c => absurd c (by decide), fun _ => ⟨fun _ => ms_rank hM (c3.2.2.2 v hv6) hv6 hB.2 hrk ⟨fun c' => absurd c' d, fun _ => ms_sumOf hM hB.1 hG.2.1.2 hG.2.1.1 c3.k (c3.2.2.2 v hv6) hv6 hj h2⟩, fun c' => absurd c c'⟩⟩
    · unfold wp_X11_sum
      exact ms_node1 hM c3 hG hv ⟨fun c => absurd c (by decide), fun _ => ⟨fun c' => absurd c' c, fun _ => h2⟩⟩
  · refine sp_node0 c1 hG hno ⟨fun _ => hp _ (fun p2 h2 => ?_), fun c => absurd rfl c⟩
    unfold wp_X11_sum
    exact ms_node0 hM c3 hG hno ⟨fun _ => h2, fun c => absurd rfl c⟩
theorem op_knows {I : KI} {J : KJ} {Q : KQ} {b : Nat} {x1 x2 : Int32} {post : Int32 → Prop} (h : Rel I J Q b) (hp : ∀ r, (∀ p2 : Int32 → Prop, p2 r → wp_X11_knows I Q 287 x1 x2 p2) → post r) : wp_X10_knows I Q 0 x1 x2 post := by
  obtain ⟨hR, π, hP, S, hs, m, hC⟩ := id h
  obtain ⟨c1, c2, c3, c4, ⟨a, ha, c5, c6⟩, hG, hb, hH⟩ := hC
  obtain ⟨⟨a0, a1, -⟩, ⟨q1, -⟩, -, -, hM⟩ := id hR.1
  have h2k : 2 ^ S.1 1 ≤ 2 ^ 8 := Nat.pow_le_pow_right (by omega) hG.2.1.2
  unfold wp_X10_knows
  rw [a0]
  rcases nodeCase x1 (S.1 0) with ⟨v, hv, rfl⟩ | hno
  · have hv6 : v < 6 := by have := hG.1; omega
    have hB := hG.2.2.2.2.2.2.2.1 v hv6
    refine sp_node1 c1 hG hv ⟨fun c => absurd c (by decide), fun _ => ?_⟩
    rcases nodeCase x2 (2 ^ S.1 1) with ⟨s, hs1, rfl⟩ | hno2
    · refine sp_set1 c1 hG hs1 ⟨fun _ => ⟨vp_in_nI hv6 (by decide), ?_⟩, fun c => absurd c (by decide)⟩
      rw [q1.2.2.1, nI_clamp (n := v) (by omega), q1.2.2.2.2.1 v hv6]
      refine sp_rest (f := S.2.2.1 v) (by omega) (by rw [q1.2.2.2.2.2 v hv6]; exact c1.sp hv6) ⟨fun d => hp _ (fun p2 h2 => ?_), fun d => hp _ (fun p2 h2 => ?_)⟩
      · have hr : red (S.2.2.1 v) s ≠ 0 := fun z => d (by rw [z]; rfl)
        unfold wp_X11_knows
        rw [hM.now, tc1, c3.k]
        refine ms_node1 hM c3 hG hv ⟨fun c => absurd c (by decide), fun _ => ms_set1 hG.2.1.2 hs1 ⟨fun _ => ms_known hM (c3.2.2.2 v hv6) hv6 (by omega) ⟨fun _ => h2, fun c' => ?_⟩, fun c => absurd c (by decide)⟩⟩
        exact absurd (of_decide_eq_true ((bI_ne _).mp c')) hr
      · have hr : red (S.2.2.1 v) s = 0 := (nI_z (Nat.lt_trans (red_lt hB.1 (x := s) (n := 8) (by omega) hG.2.1.2) (by decide))).mp d
        unfold wp_X11_knows
        rw [hM.now, tc1, c3.k]
        refine ms_node1 hM c3 hG hv ⟨fun c => absurd c (by decide), fun _ => ms_set1 hG.2.1.2 hs1 ⟨fun _ => ms_known hM (c3.2.2.2 v hv6) hv6 (by omega) ⟨fun c' => ?_, fun _ => h2⟩, fun c => absurd c (by decide)⟩⟩
        exact absurd hr (of_decide_eq_false ((bI_eq _).mp c'))
    · refine sp_set0 c1 hG hno2 ⟨fun c => absurd rfl c, fun _ => hp _ (fun p2 h2 => ?_)⟩
      unfold wp_X11_knows
      rw [hM.now, tc1, c3.k]
      exact ms_node1 hM c3 hG hv ⟨fun c => absurd c (by decide), fun _ => ms_set0 hG.2.1.2 hno2 ⟨fun c => absurd rfl c, fun _ => h2⟩⟩
  · refine sp_node0 c1 hG hno ⟨fun _ => hp _ (fun p2 h2 => ?_), fun c => absurd rfl c⟩
    unfold wp_X11_knows
    exact ms_node0 hM c3 hG hno ⟨fun _ => h2, fun c => absurd rfl c⟩
theorem nb32 (p v : Nat) {n : Nat} (hn : n ≤ 6) : nbT p v n < 2 ^ 32 := Nat.lt_of_lt_of_le (nbT_lt _ _ _) (Nat.pow_le_pow_right (by omega) (by omega))
theorem Fr.refl (I : KI) : Fr I I := ⟨fun _ _ => rfl, rfl, fun _ _ => rfl⟩
theorem Fr.of {I I' : KI} (h : ∀ q, (q < 243 ∨ 274 ≤ q) → (q < 291 ∨ 299 ≤ q) → q ≠ 276 → q ≠ 277 → q ≠ 287 → I' q = I q) (h2 : ∀ j, j ≠ 12 → I' 287 j = I 287 j) : Fr I I' := ⟨fun q hq => h q (by omega) (by omega) (by omega) (by omega) (by omega), by rw [h 274 (by omega) (by omega) (by omega) (by omega) (by omega)], fun j hj => h2 j (by omega)⟩
theorem op_linked {I : KI} {J : KJ} {Q : KQ} {b : Nat} {x1 x2 : Int32} {post : Int32 → Prop} (h : Rel I J Q b) (hp : ∀ r, (∀ p2 : Int32 → Prop, p2 r → wp_X11_linked I Q 287 x1 x2 p2) → post r) : wp_X10_linked I Q 0 x1 x2 post := by
  obtain ⟨hR, π, hP, S, hs, m, hC⟩ := id h
  obtain ⟨c1, c2, c3, c4, ⟨a, ha, c5, c6⟩, hG, hb, hH⟩ := hC
  obtain ⟨⟨a0, a1, -⟩, ⟨q1, -⟩, -, -, hM⟩ := id hR.1
  unfold wp_X10_linked
  rw [a0]
  refine ⟨fun c => hp _ (fun p2 h2 => ?_), fun c => ?_⟩
  · unfold wp_X11_linked
    exact ⟨fun _ => h2, fun c' => absurd c c'⟩
  · obtain ⟨r, hr, rfl⟩ := nI_of c
    rcases nodeCase x2 (S.1 0) with ⟨v, hv, rfl⟩ | hno
    · have hv6 : v < 6 := by have := hG.1; omega
      refine sp_node1 c1 hG hv ⟨fun _ => sp_neighbours q1 c1 hG hr hv6 (hp _ (fun p2 h2 => ?_)), fun c => absurd c (by decide)⟩
      unfold wp_X11_linked
      rw [hM.now, tc0, c3.n]
      refine ⟨fun c' => absurd c' c, fun _ => ms_node1 hM c3 hG hv ⟨fun c => absurd c (by decide), fun _ => ms_linksOf hM c3 hG hr (ms_linkedBy hG.1.2 hv6 ?_ h2)⟩⟩
      have := hG.p15 (i := r / S.1 3 % S.1 6) (Nat.mod_lt _ (by have := hG.2.2.2.2.2.1; omega))
      omega
    · refine sp_node0 c1 hG hno ⟨fun c => absurd rfl c, fun _ => hp _ (fun p2 h2 => ?_)⟩
      unfold wp_X11_linked
      exact ⟨fun c' => absurd c' c, fun _ => ms_node0 hM c3 hG hno ⟨fun _ => h2, fun c => absurd rfl c⟩⟩
theorem op_count {I : KI} {J : KJ} {Q : KQ} {b : Nat} {x1 : Int32} {post : Int32 → Prop} (h : Rel I J Q b) (hp : ∀ r, (∀ p2 : Int32 → Prop, p2 r → wp_X11_count I Q 287 x1 p2) → post r) : wp_X10_count I Q 0 x1 post := by
  obtain ⟨hR, π, hP, S, hs, m, hC⟩ := id h
  obtain ⟨c1, c2, c3, c4, ⟨a, ha, c5, c6⟩, hG, hb, hH⟩ := hC
  obtain ⟨⟨a0, a1, -⟩, ⟨q1, -⟩, -, -, hM⟩ := id hR.1
  have e3 : ∀ i, i < 6 → I 1 (3 + i) = nI (S.1 i) := c1.1
  have dd : ∀ {P : Prop} {u v : Int32}, u = v → (decide (u = v) = false) → P := fun {P} {u v} q1 q2 => by
    rw [decide_eq_true q1] at q2; cases q2
  unfold wp_X10_count
  rw [a0, a1, q1.1, show I 1 3 = nI (S.1 0) from e3 0 (by omega), show I 1 4 = nI (S.1 1) from e3 1 (by omega), show I 1 5 = nI (S.1 2) from e3 2 (by omega), show I 1 6 = nI (S.1 3) from e3 3 (by omega), show I 1 7 = nI (S.1 4) from e3 4 (by omega), show I (1 + 1) 1 = nI (S.1 6) from c1.2.1, show I 18 1 = nI m from c2.1]
  have hw : ∀ p2 : Int32 → Prop, ((x1 = 0 → p2 (nI (S.1 0))) ∧ (x1 = 1 → p2 (nI (S.1 1))) ∧ (x1 = 2 → p2 (nI (S.1 2))) ∧ (x1 = 3 → p2 (nI (S.1 3))) ∧ (x1 = 4 → p2 (nI (S.1 4))) ∧ (x1 = 5 → p2 (nI (S.1 6))) ∧ (x1 = 6 → p2 (nI (rksT S (S.1 0)))) ∧ (x1 = 7 → p2 (nI (fulT S (S.1 0)))) ∧ (x1 = 8 → p2 (nI m)) ∧ (¬ x1 = 0 → ¬ x1 = 1 → ¬ x1 = 2 → ¬ x1 = 3 → ¬ x1 = 4 → ¬ x1 = 5 → ¬ x1 = 6 → ¬ x1 = 7 → ¬ x1 = 8 → p2 (-1))) → wp_X11_count I Q 287 x1 p2 := by
    rintro p2 ⟨k0, k1, k2, k3, k4, k5, k6, k7, k8, k9⟩
    unfold wp_X11_count
    rw [hM.now, tc0, tc1, tc2, tc3, tc4, tc6, c3.n, c3.k, c3.m, c3.sp, c3.r, c3.q, c4]
    exact ⟨k0, k1, k2, k3, k4, k5, fun c => ms_ranks hM c3 hG (k6 c), fun c => ms_whole hM c3 hG (k7 c), k8, k9⟩
  refine ⟨fun c => hp _ (fun p2 h2 => hw p2 ?_), fun c => hp _ (fun p2 h2 => hw p2 ?_), fun c => hp _ (fun p2 h2 => hw p2 ?_), fun c => hp _ (fun p2 h2 => hw p2 ?_), fun c => hp _ (fun p2 h2 => hw p2 ?_), fun c => hp _ (fun p2 h2 => hw p2 ?_), fun c => sp_ranks q1 c1 hG (hp _ (fun p2 h2 => hw p2 ?_)), fun c => sp_full q1 c1 hG (hp _ (fun p2 h2 => hw p2 ?_)), fun c => hp _ (fun p2 h2 => hw p2 ?_), fun d0 d1 d2 d3 d4 d5 d6 d7 d8 => hp _ (fun p2 h2 => hw p2 ⟨fun c => absurd c d0, fun c => absurd c d1, fun c => absurd c d2, fun c => absurd c d3, fun c => absurd c d4, fun c => absurd c d5, fun c => absurd c d6, fun c => absurd c d7, fun c => absurd c d8, fun _ _ _ _ _ _ _ _ _ => h2⟩)⟩
  · subst c
    exact ⟨fun _ => h2, fun c => dd c rfl, fun c => dd c rfl, fun c => dd c rfl, fun c => dd c rfl, fun c => dd c rfl, fun c => dd c rfl, fun c => dd c rfl, fun c => dd c rfl, fun c => absurd rfl c⟩
  · subst c
    exact ⟨fun c => dd c rfl, fun _ => h2, fun c => dd c rfl, fun c => dd c rfl, fun c => dd c rfl, fun c => dd c rfl, fun c => dd c rfl, fun c => dd c rfl, fun c => dd c rfl, fun _ c => absurd rfl c⟩
  · subst c
    exact ⟨fun c => dd c rfl, fun c => dd c rfl, fun _ => h2, fun c => dd c rfl, fun c => dd c rfl, fun c => dd c rfl, fun c => dd c rfl, fun c => dd c rfl, fun c => dd c rfl, fun _ _ c => absurd rfl c⟩
  · subst c
    exact ⟨fun c => dd c rfl, fun c => dd c rfl, fun c => dd c rfl, fun _ => h2, fun c => dd c rfl, fun c => dd c rfl, fun c => dd c rfl, fun c => dd c rfl, fun c => dd c rfl, fun _ _ _ c => absurd rfl c⟩
  · subst c
    exact ⟨fun c => dd c rfl, fun c => dd c rfl, fun c => dd c rfl, fun c => dd c rfl, fun _ => h2, fun c => dd c rfl, fun c => dd c rfl, fun c => dd c rfl, fun c => dd c rfl, fun _ _ _ _ c => absurd rfl c⟩
  · subst c
    exact ⟨fun c => dd c rfl, fun c => dd c rfl, fun c => dd c rfl, fun c => dd c rfl, fun c => dd c rfl, fun _ => h2, fun c => dd c rfl, fun c => dd c rfl, fun c => dd c rfl, fun _ _ _ _ _ c => absurd rfl c⟩
  · subst c
    exact ⟨fun c => dd c rfl, fun c => dd c rfl, fun c => dd c rfl, fun c => dd c rfl, fun c => dd c rfl, fun c => dd c rfl, fun _ => h2, fun c => dd c rfl, fun c => dd c rfl, fun _ _ _ _ _ _ c => absurd rfl c⟩
  · subst c
    exact ⟨fun c => dd c rfl, fun c => dd c rfl, fun c => dd c rfl, fun c => dd c rfl, fun c => dd c rfl, fun c => dd c rfl, fun c => dd c rfl, fun _ => h2, fun c => dd c rfl, fun _ _ _ _ _ _ _ c => absurd rfl c⟩
  · subst c
    exact ⟨fun c => dd c rfl, fun c => dd c rfl, fun c => dd c rfl, fun c => dd c rfl, fun c => dd c rfl, fun c => dd c rfl, fun c => dd c rfl, fun c => dd c rfl, fun _ => h2, fun _ _ _ _ _ _ _ _ c => absurd rfl c⟩
theorem op_sends {I : KI} {J : KJ} {Q : KQ} {b : Nat} {x1 : Int32} {post : Int32 → KI → Prop} (h : Rel I J Q b) (hb31 : b < 2 ^ 30) (hp : ∀ r I4, (∀ p2 : Int32 → KI → Prop, (∀ I5, Rel I5 J Q b → p2 r I5) → wp_X11_sends I4 Q 287 x1 p2) → post r I4) : wp_X10_sends I Q 0 x1 post := by
  obtain ⟨hR, π, hP, S, hs, m, hC⟩ := id h
  obtain ⟨c1, c2, c3, c4, ⟨a, ha, c5, c6⟩, hG, hb, hH⟩ := hC
  obtain ⟨⟨a0, a1, a2, a3, a4, a5, -⟩, ⟨q1, q2, q3, q4⟩, -, -, hM⟩ := id hR.1
  have hm3 := hG.2.2.1
  unfold wp_X10_sends
  rw [a0, a5]
  rcases nodeCase x1 (S.1 0) with ⟨v, hv, rfl⟩ | hno
  · have hv6 : v < 6 := by have := hG.1; omega
    refine sp_node1 c1 hG hv ⟨fun _ => ?_, fun c => absurd c (by decide)⟩
    rw [show I 1 5 = nI (S.1 2) from c1.1 2 (by omega)]
    refine sp_prepare q4 q1 c1 hG (by omega) hm3 (by omega) (fun I' w1 w2 w3 => ?_)
    have e5 : I' 1 5 = nI (S.1 2) := by rw [w1 1 (by decide) (by decide) (by decide)]; exact c1.1 2 (by omega)
    obtain ⟨s1, s2, s3⟩ := w3 v hv
    have hperm := (sndM_perm S (S.1 2) v).length_eq
    have mod : ∀ (p2 : Int32 → KI → Prop), (∀ I5, Rel I5 J Q b → (I5 293 v = nI (sndM S (S.1 2) v).length ∧ ∀ j, j < (sndM S (S.1 2) v).length → I5 294 (8 * v + j) = nI ((sndM S (S.1 2) v).getD j 0)) → ((nI (S.1 2) ≤ (2 : Int32) → (¬ nI (sndM S (S.1 2) v).length = 0 → p2 (I5 294 (8 * v)) I5) ∧ (nI (sndM S (S.1 2) v).length = 0 → p2 (-4) I5)) ∧ (¬ nI (S.1 2) ≤ (2 : Int32) → p2 (nI (sndM S (S.1 2) v).length) I5))) → wp_X11_sends I' Q 287 (nI v) p2 := by
      intro p2 h2
      have e288 : I' 288 = I 288 := w1 288 (by decide) (by decide) (by decide)
      unfold wp_X11_sends
      refine ms_node1 hM (by rw [e288]; exact c3) hG hv ⟨fun _ => ms_laysSends hM (by rw [e288]; exact c3) hG (by omega) (fun I5 y1 y2 y3 y4 => ?_), fun c => absurd c (by decide)⟩
      have e288' : I5 288 = I 288 := by rw [y1 288 (by decide) (by decide) (by decide), e288]
      obtain ⟨t1, t2, t3⟩ := y4 v hv
      have hh := h2 I5 (h.fr (Fr.of (fun q d1 d2 d3 d4 d5 => by rw [y1 q d5 (by omega) (by omega), w1 q (by omega) (by omega) (by omega)]) (fun j hj => by rw [y2 j hj, w1 287 (by decide) (by decide) (by decide)]))) ⟨t1, t3⟩
      rw [hM.now, tc2, hM.sendMany, hM.send, nI_clamp (n := v) (by omega), show (8 : Int32) * nI v = nI (8 * v) from pk_mul 8 v, nI_clamp (n := 8 * v) (by omega), e288', c3.m, t1]
      exact ⟨fun c => ⟨vp_in_nI hv6 (by decide), fun c2 => ⟨vp_in_nI (by omega) (by decide), (hh.1 c).1 c2⟩, (hh.1 c).2⟩, fun c => ⟨vp_in_nI hv6 (by decide), hh.2 c⟩⟩
    rw [e5, q4.2.1, nI_clamp (n := v) (by omega), s1]
    refine ⟨fun c => ⟨vp_in_nI hv6 (by decide), fun c2 => sp_only q4 hG.1.2 w3 hv (hp _ _ (fun p2 h2 => mod p2 (fun I5 hr ht => ?_))), fun c2 => hp _ _ (fun p2 h2 => mod p2 (fun I5 hr ht => ?_))⟩, fun c => ⟨vp_in_nI hv6 (by decide), hp _ _ (fun p2 h2 => mod p2 (fun I5 hr ht => ?_))⟩⟩
    · have hm : S.1 2 ≠ 3 := fun z => c (by rw [z]; rfl)
      have eL : sndM S (S.1 2) v = sndL S (S.1 2) v := by unfold sndM; rw [if_neg hm]
      rw [eL] at ht ⊢
      refine ⟨fun _ => ⟨fun _ => ?_, fun c3 => absurd c3 c2⟩, fun c3 => absurd (nI_le (a := S.1 2) (b := 2) (by omega) (by decide)) c3⟩
      have hl : 0 < (sndL S (S.1 2) v).length := Nat.pos_of_ne_zero (fun z => c2 (by rw [z]; rfl))
      have := ht.2 0 hl
      rw [Nat.add_zero] at this
      rw [this]
      exact h2 I5 hr
    · have hm : S.1 2 ≠ 3 := fun z => c (by rw [z]; rfl)
      rw [hperm]
      exact ⟨fun _ => ⟨fun c3 => absurd c2 c3, fun _ => h2 I5 hr⟩, fun c3 => absurd (nI_le (a := S.1 2) (b := 2) (by omega) (by decide)) c3⟩
    · have hm : S.1 2 = 3 := (nI_eq (b := 3) (by omega) (by decide)).mp c
      rw [hperm]
      refine ⟨fun c3 => ?_, fun _ => h2 I5 hr⟩
      rw [hm] at c3
      exact absurd c3 (by decide)
  · refine sp_node0 c1 hG hno ⟨fun c => absurd rfl c, fun _ => hp _ _ (fun p2 h2 => ?_)⟩
    unfold wp_X11_sends
    exact ms_node0 hM c3 hG hno ⟨fun c => absurd rfl c, fun _ => h2 I h⟩
set_option maxHeartbeats 1000000 in
theorem op_node {I : KI} {J : KJ} {Q : KQ} {b : Nat} {x1 x2 : Int32} {post : Int32 → KI → Prop} (h : Rel I J Q b) (hb31 : b < 2 ^ 30) (hp : ∀ r I4, (∀ p2 : Int32 → KI → Prop, (∀ I5, Rel I5 J Q b → p2 r I5) → wp_X11_node I4 Q 287 x1 x2 p2) → post r I4) : wp_X10_node I Q 0 x1 x2 post := by
  obtain ⟨hR, π, hP, S, hs, m, hC⟩ := id h
  obtain ⟨c1, c2, c3, c4, ⟨a, ha, c5, c6⟩, hG, hb, hH⟩ := hC
  obtain ⟨⟨a0, a1, a2, a3, a4, a5, -⟩, ⟨q1, q2, q3, q4⟩, -, -, hM⟩ := id hR.1
  have hm3 := hG.2.2.1
  have dd : ∀ {P : Prop} {u v : Int32}, u = v → (decide (u = v) = false) → P := fun {P} {u v} q1 q2 => by
    rw [decide_eq_true q1] at q2; cases q2
  unfold wp_X10_node
  rw [a0, a5]
  rcases nodeCase x1 (S.1 0) with ⟨v, hv, rfl⟩ | hno
  · have hv6 : v < 6 := by have := hG.1; omega
    have hB := hG.2.2.2.2.2.2.2.1 v hv6
    have hrk := rk_le8 hB.1
    have hpr := prT_lt hG
    have e7 : I 1 7 = nI (S.1 4) := c1.1 4 (by omega)
    refine sp_node1 c1 hG hv ⟨fun _ => ?_, fun c => absurd c (by decide)⟩
    rw [q1.2.2.1, q1.2.2.2.1, nI_clamp (n := v) (by omega), q1.2.2.2.2.1 v hv6, e7, show I 1 5 = nI (S.1 2) from c1.1 2 (by omega), c1.2.2.2.2 v hv6]
    refine ⟨fun c => ⟨vp_in_nI hv6 (by decide), ?_⟩, fun c => ⟨vp_in_nI hv6 (by decide), ?_⟩, fun c => ⟨vp_in_nI hv6 (by decide), ?_⟩, fun c => ?_, fun c => ?_, fun d0 d1 d2 d3 d4 => ?_⟩
    · subst c
      refine sp_rank (f := S.2.2.1 v) (by rw [q1.2.2.2.2.2 v hv6]; exact c1.sp hv6) (fun t ht => hG.f31 hv6 ht) (hp _ _ (fun p2 h2 => ?_))
      unfold wp_X11_node
      exact ms_node1 hM c3 hG hv ⟨fun _ => ⟨fun _ => ms_rank hM (c3.2.2.2 v hv6) hv6 hB.2 hrk (h2 I h), fun c => dd c rfl, fun c => dd c rfl, fun c => dd c rfl, fun c => dd c rfl, fun c => absurd rfl c⟩, fun c => absurd c (by decide)⟩
    · subst c
      refine sp_told (f := S.2.2.1 v) (q1.2.2.2.2.2 v hv6) (c1.sp hv6) (fun t ht => hG.f31 hv6 ht) (hp _ _ (fun p2 h2 => ?_))
      unfold wp_X11_node
      exact ms_node1 hM c3 hG hv ⟨fun _ => ⟨fun c => dd c rfl, fun _ => ms_tells hM hB.1 hG.2.1.2 c3.k (c3.2.2.2 v hv6) hv6 (h2 I h), fun c => dd c rfl, fun c => dd c rfl, fun c => dd c rfl, fun _ c => absurd rfl c⟩, fun c => absurd c (by decide)⟩
    · subst c
      refine hp _ _ (fun p2 h2 => ?_)
      unfold wp_X11_node
      refine ms_node1 hM c3 hG hv ⟨fun _ => ⟨fun c => dd c rfl, fun c => dd c rfl, fun _ => ?_, fun c => dd c rfl, fun c => dd c rfl, fun _ _ c => absurd rfl c⟩, fun c => absurd c (by decide)⟩
      rw [hM.now, show (15 : Int32) + nI v = nI (15 + v) from nI_add 15 v, nI_clamp (n := 15 + v) (by omega), c3.2.2.1 v hv6]
      exact ⟨vp_in_nI (by omega) (by decide), h2 I h⟩
    · subst c
      refine sp_neighbours q1 c1 hG (by omega) hv6 (hp _ _ (fun p2 h2 => ?_))
      unfold wp_X11_node
      refine ms_node1 hM c3 hG hv ⟨fun _ => ⟨fun c => dd c rfl, fun c => dd c rfl, fun c => dd c rfl, fun _ => ms_present hM c3 hG (by omega) ?_, fun c => dd c rfl, fun _ _ _ c => absurd rfl c⟩, fun c => absurd c (by decide)⟩
      rw [hM.now, tc0, c3.n]
      exact ms_linkedBy hG.1.2 hv6 (by omega) (h2 I h)
    · subst c
      refine sp_prepare q4 q1 c1 hG (by omega) hm3 (by omega) (fun I' w1 w2 w3 => ?_)
      have n1 : NetIs I' 1 S := c1.fr (fun k _ _ => w1 k (by omega) (by omega) (by omega))
      rw [show I' 1 7 = nI (S.1 4) from n1.1 4 (by omega)]
      refine sp_neighbours q1 n1 hG (by omega) hv6 (sp_growth q4 q1 n1 hG (by omega) w3 (fun u hu => (sndL_lt hG (S.1 2) (by have := hG.1; omega)).1) hv6 (nb32 _ _ hG.1.2) (fun g => hp _ _ (fun p2 h2 => ?_)))
      have f1 : ∀ q, (q < 260 ∨ 265 ≤ q) → upk I' (260 + 4) g q = I q := fun q hq => by rw [upk_n (by omega), w1 q (by omega) (by omega) (by omega)]
      have e288 : upk I' (260 + 4) g 288 = I 288 := f1 288 (by omega)
      unfold wp_X11_node
      refine ms_node1 hM (by rw [e288]; exact c3) hG hv ⟨fun _ => ⟨fun c => dd c rfl, fun c => dd c rfl, fun c => dd c rfl, fun c => dd c rfl, fun _ => ms_laysSends hM (by rw [e288]; exact c3) hG (by omega) (fun I5 y1 y2 y3 y4 => ?_), fun _ _ _ _ c => absurd rfl c⟩, fun c => absurd c (by decide)⟩
      have e288' : I5 288 = I 288 := by rw [y1 288 (by decide) (by decide) (by decide), e288]
      have c3' : RowIs (I5 288) S := by rw [e288']; exact c3
      refine ms_present hM c3' hG (by omega) ?_
      rw [hM.now, tc0, c3'.n]
      refine ms_linkedBy hG.1.2 hv6 (by omega) (ms_growth hM c3' hG y4 hv6 (nb32 _ _ hG.1.2) (fun I6 u1 => h2 I6 (h.fr (Fr.of (fun q d1 d2 d3 d4 d5 => ?_) (fun j hj => ?_)))))
      · rw [u1 q (by omega) (by omega), y1 q d5 (by omega) (by omega), f1 q (by omega)]
      · rw [u1 287 (by decide) (by decide), y2 j hj, f1 287 (by omega)]
    · refine hp _ _ (fun p2 h2 => ?_)
      unfold wp_X11_node
      exact ms_node1 hM c3 hG hv ⟨fun _ => ⟨fun c => absurd c d0, fun c => absurd c d1, fun c => absurd c d2, fun c => absurd c d3, fun c => absurd c d4, fun _ _ _ _ _ => h2 I h⟩, fun c => absurd c (by decide)⟩
  · refine sp_node0 c1 hG hno ⟨fun c => absurd rfl c, fun _ => hp _ _ (fun p2 h2 => ?_)⟩
    unfold wp_X11_node
    exact ms_node0 hM c3 hG hno ⟨fun c => absurd rfl c, fun _ => h2 I h⟩
