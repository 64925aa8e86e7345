/-! PURE, 21: sheets -/
theorem sp_sheet1 {s : Nat} {post : Int32 → Prop} (hs : s < 4) (hp : post 1) : wp_X10_isSheet (nI s) post := ⟨fun c => absurd c (nI_pos (by omega)), fun _ => ⟨fun c => absurd c (nI_ge (b := 4) hs (by decide)), fun _ => hp⟩⟩
theorem sp_sheet0 {x : Int32} {post : Int32 → Prop} (h : ∀ j, j < 4 → ¬ x = nI j) (hp : post 0) : wp_X10_isSheet x post := by
  refine ⟨fun _ => hp, fun c => ⟨fun _ => hp, fun c2 => ?_⟩⟩
  obtain ⟨j, hj, rfl⟩ := nI_of c
  have : ¬ 4 ≤ j := fun q => c2 (nI_le (a := 4) q hj)
  exact absurd rfl (h j (by omega))
theorem sp_lane1 {s : Nat} {post : Int32 → Prop} (hs : s < 4) (hp : post 1) : wp_X10_isLane (nI s) post := sp_sheet1 hs hp
theorem sp_lane0 {x : Int32} {post : Int32 → Prop} (h : ∀ j, j < 4 → ¬ x = nI j) (hp : post 0) : wp_X10_isLane x post := sp_sheet0 h hp
theorem ms_lane1 {s : Nat} {post : Int32 → Prop} (hs : s < 4) (hp : post 1) : wp_X11_in (nI s).toInt64 (0 : Int64) (3 : Int64) post := ms_in1 (lo := 0) (hi := 3) (by omega) (by omega) (by decide) hp
theorem ms_lane0 {x : Int32} {post : Int32 → Prop} (h : ∀ j, j < 4 → ¬ x = nI j) (hp : post 0) : wp_X11_in x.toInt64 (0 : Int64) (3 : Int64) post := ms_in0 (lo := 0) (hi := 3) (fun j _ h2 => h j (by omega)) (by decide) (by decide) hp
theorem ms_sheet1 {s : Nat} {post : Int32 → Prop} (hs : s < 4) (hp : post 1) : wp_X11_isSheet (nI s) post := ms_lane1 hs ⟨Or.inr rfl, hp⟩
theorem ms_sheet0 {x : Int32} {post : Int32 → Prop} (h : ∀ j, j < 4 → ¬ x = nI j) (hp : post 0) : wp_X11_isSheet x post := ms_lane0 h ⟨Or.inl rfl, hp⟩
theorem nI_nm1 {n : Nat} (h : n < 2 ^ 31) : ¬ nI n = -1 := by
  intro c
  have h2 := nI_pos h
  rw [c] at h2
  exact h2 (by decide)
theorem sp_covers {I : KI} {h t : Nat} {x1 x2 : Int32} {post : Int32 → Prop} (ht : t ≤ 24) (hI : I h 2 = nI t) (hp1 : ∀ i n, x1 = nI i → x2 = nI n → i + n ≤ t → post 1) (hp0 : (∀ i n, i + n ≤ t → x1 = nI i → ¬ x2 = nI n) → post 0) : wp_X6_covers I h x1 x2 post := by
  unfold wp_X6_covers
  rw [hI]
  refine ⟨fun c => hp0 (fun i n q e _ => ?_), fun c => ⟨fun c2 => hp0 (fun i n q _ e => ?_), fun c2 => ?_⟩⟩
  · rw [e] at c; exact nI_pos (by omega) c
  · rw [e] at c2; exact nI_pos (by omega) c2
  · obtain ⟨i, hi, rfl⟩ := nI_of c
    obtain ⟨n, hn, rfl⟩ := nI_of c2
    refine ⟨fun c3 => hp0 (fun i' n' q e1 e2 => ?_), fun c3 => ?_⟩
    · have e1 := (nI_eq hi (by omega)).mp e1
      have e2 := (nI_eq hn (by omega)).mp e2
      have := (nI_ltI (by omega) (by omega)).mp c3
      omega
    · have hnt : n ≤ t := Nat.le_of_not_lt (fun q => c3 (nI_lt q (by omega)))
      rw [pk_sub hnt]
      refine ⟨fun c4 => hp0 (fun i' n' q e1 e2 => ?_), fun c4 => hp1 i n rfl rfl ?_⟩
      · have e1 := (nI_eq hi (by omega)).mp e1
        have e2 := (nI_eq hn (by omega)).mp e2
        have := (nI_ltI (by omega) (by omega)).mp c4
        omega
      · have : ¬ t - n < i := fun q => c4 (nI_lt q (by omega))
        omega
theorem ms_whyN {I : KI} {Q : KQ} {s : Nat} {x2 x3 x4 : Int32} {post : Int32 → Prop} (hM : MdQ Q) (hs : s < 4) (h : I 302 s = -1) (hp : post (-11)) : wp_X11_why I Q 287 (nI s) x2 x3 x4 post := by
  unfold wp_X11_why
  rw [hM.many, nI_clamp (n := s) (by omega), h]
  exact ⟨vp_in_nI hs (by decide), fun c => absurd c (by decide), fun _ => hp⟩
theorem ms_whyC {I : KI} {Q : KQ} {s t l : Nat} {x2 x3 x4 : Int32} {post : Int32 → Prop} (hM : MdQ Q) (hs : s < 4) (ht : t ≤ 24) (h : I 302 s = nI t) (hl : I 301 s = nI l) (hne : ¬ nI l = x2) (hp : post (-12)) : wp_X11_why I Q 287 (nI s) x2 x3 x4 post := by
  unfold wp_X11_why
  rw [hM.many, hM.lane, nI_clamp (n := s) (by omega), h, hl]
  exact ⟨vp_in_nI hs (by decide), fun _ => ⟨vp_in_nI hs (by decide), fun c => absurd c hne, fun _ => hp⟩, fun c => absurd (nI_pos' (by omega)) c⟩
theorem ms_why {I : KI} {Q : KQ} {s t l n : Nat} {x3 : Int32} {post : Int32 → Prop} (hM : MdQ Q) (hs : s < 4) (ht : t ≤ 24) (h : I 302 s = nI t) (hl : I 301 s = nI l) (hn : n < 2 ^ 30) (hp1 : ∀ i, x3 = nI i → i + n ≤ t → post 0) (hp0 : (∀ i, i + n ≤ t → ¬ x3 = nI i) → post (-13)) : wp_X11_why I Q 287 (nI s) (nI l) x3 (nI n) post := by
  unfold wp_X11_why
  rw [hM.many, hM.lane, nI_clamp (n := s) (by omega), h, hl]
  refine ⟨vp_in_nI hs (by decide), fun _ => ⟨vp_in_nI hs (by decide), fun _ => ⟨fun c => hp0 (fun i q e => ?_), fun c => ⟨vp_in_nI hs (by decide), fun c2 => hp0 (fun i q e => ?_), fun c2 => ?_⟩⟩, fun c => absurd rfl c⟩, fun c => absurd (nI_pos' (by omega)) c⟩
  · rw [e] at c; exact nI_pos (by omega) c
  · rw [e, pk_sub (by omega)] at c2
    have := (nI_ltI (by omega) (by omega)).mp c2
    omega
  · obtain ⟨i, hi, rfl⟩ := nI_of c
    by_cases hnt : n ≤ t
    · rw [pk_sub hnt] at c2
      have : ¬ t - n < i := fun q => c2 (nI_lt q (by omega))
      exact hp1 i rfl (by omega)
    · exfalso
      apply c2
      have h1 := pk_sneg (a := t) (b := n) hn (by omega)
      rw [Int32.lt_iff_toInt_lt] at h1 ⊢
      rw [nI_toInt hi]
      have h0 : (0 : Int32).toInt = 0 := rfl
      omega
def cutL (l : Nat) (v : Int64) : Int64 := if l = 0 then ((v.toInt32).toInt8.toInt32).toInt64 else if l = 1 then ((v.toInt32).toInt16.toInt32).toInt64 else if l = 2 then (v.toInt32).toInt64 else v
theorem sp_put {I : KI} {J : KJ} {Q : KQ} {h l i : Nat} {v : Int64} {post : KJ → Prop} (hl : l < 4) (hI : I h 1 = nI l) (hi : i < 24) (hp : post (stj J (rq Q h 0) i (cutL l v))) : wp_X6_set I J Q h (nI i) v post := by
  unfold wp_X6_set
  rw [hI, nI_clamp (n := i) (by omega)]
  have hin : vp_in (nI i) 24 := vp_in_nI hi (by decide)
  rcases (show l = 0 ∨ l = 1 ∨ l = 2 ∨ l = 3 by omega) with rfl | rfl | rfl | rfl
  · exact ⟨fun _ => ⟨hin, hp⟩, fun c => absurd c (by decide), fun c => absurd c (by decide), fun c => absurd rfl c⟩
  · exact ⟨fun c => absurd c (by decide), fun _ => ⟨hin, hp⟩, fun c => absurd c (by decide), fun _ c => absurd rfl c⟩
  · exact ⟨fun c => absurd c (by decide), fun c => absurd c (by decide), fun _ => ⟨hin, hp⟩, fun _ _ c => absurd rfl c⟩
  · exact ⟨fun c => absurd c (by decide), fun c => absurd c (by decide), fun c => absurd c (by decide), fun _ _ _ => ⟨hin, hp⟩⟩
theorem ms_cut {l : Nat} {v : Int64} {post : Int64 → Prop} (hl : l < 4) (hp : post (cutL l v)) : wp_X11_cut (nI l) v post := by
  unfold wp_X11_cut
  rcases (show l = 0 ∨ l = 1 ∨ l = 2 ∨ l = 3 by omega) with rfl | rfl | rfl | rfl
  · exact ⟨fun c => absurd rfl c, fun _ => hp⟩
  · exact ⟨fun _ => ⟨fun c => absurd rfl c, fun _ => hp⟩, fun c => absurd c (by decide)⟩
  · exact ⟨fun _ => ⟨fun _ => ⟨fun c => absurd rfl c, fun _ => hp⟩, fun c => absurd c (by decide)⟩, fun c => absurd c (by decide)⟩
  · exact ⟨fun _ => ⟨fun _ => ⟨fun _ => hp, fun c => absurd c (by decide)⟩, fun c => absurd c (by decide)⟩, fun c => absurd c (by decide)⟩
theorem stj_at (J : KJ) (k j : Nat) (v : Int64) : stj J k j v k = vp_updL (J k) j v := upk_s
theorem stj_ne (J : KJ) {k q : Nat} (j : Nat) (v : Int64) (h : q ≠ k) : stj J k j v q = J q := upk_n h
theorem Rel.J {I : KI} {J J' : KJ} {Q : KQ} {b : Nat} (h : Rel I J Q b) (hS : RelS I J') : Rel I J' Q b := by
  obtain ⟨⟨h1, h2, h3, h4⟩, h5⟩ := h
  exact ⟨⟨h1, h2, h3, hS⟩, h5⟩
/-- a row's items, the same on both sides -/
def RowJ (J : KJ) (s : Nat) : Prop := ∀ j, j < 24 → J (280 + 2 * s) j = J 303 (24 * s + j)
theorem RelS.sub {I : KI} {J J' : KJ} {s : Nat} (h : RelS I J) (hs : s < 4) (h1 : ∀ q, q ≠ 280 + 2 * s → q ≠ 303 → J' q = J q) (h2 : ∀ t, (t < 24 * s ∨ 24 * s + 24 ≤ t) → J' 303 t = J 303 t) (h3 : RowJ J' s) : RelS I J' := by
  intro u hu
  rcases h u hu with q | ⟨l, n, q1, q2, q3, q4, q5, q6, q7⟩
  · exact Or.inl q
  · refine Or.inr ⟨l, n, q1, q2, q3, q4, q5, q6, fun j hj => ?_⟩
    by_cases hus : u = s
    · subst hus; exact h3 j hj
    · rw [h1 (280 + 2 * u) (by omega) (by omega), h2 (24 * u + j) (by omega)]
      exact q7 j hj
theorem op_item {I : KI} {J : KJ} {Q : KQ} {b : Nat} {x1 x2 x3 : Int32} {x4 : Int64} {post : Int32 → KJ → Prop} (h : Rel I J Q b) (hp : ∀ r J4, (∀ p2 : Int32 → KJ → Prop, (∀ J5, Rel I J5 Q b → p2 r J5) → wp_X11_item I J4 Q 287 x1 x2 x3 x4 p2) → post r J4) : wp_X10_item I J Q 0 x1 x2 x3 x4 post := by
  obtain ⟨⟨hQ, hI2, hT, hSh⟩, hC⟩ := id h
  obtain ⟨⟨a0, a1, a2, a3, a4, a5, a6, a7, a8, a9, a10⟩, -, -, hrow, hM⟩ := id hQ
  unfold wp_X10_item wp_X10_refusal
  rw [a10]
  rcases nodeCase x1 4 with ⟨s, hs, rfl⟩ | hno
  · obtain ⟨r1, r2⟩ := hrow s hs
    refine sp_sheet1 hs ⟨fun c => absurd c (by decide), fun _ => ?_⟩
    rw [nI_clamp (n := s) (by omega), r1]
    rcases nodeCase x2 4 with ⟨l, hl, rfl⟩ | hno2
    · refine sp_lane1 hl ⟨fun _ => ⟨vp_in_nI hs (by decide), ?_⟩, fun c => absurd c (by decide)⟩
      rcases hSh s hs with ⟨n1, n2⟩ | ⟨l', t, k1, k2, k3, k4, k5, k6, k7⟩
      · refine ⟨fun c => absurd n1 c, fun _ => ⟨fun c => absurd c (by decide), fun _ => ⟨fun c => absurd c (by decide), fun _ => hp _ _ (fun p2 h2 => ?_)⟩⟩⟩
        unfold wp_X11_item
        exact ms_sheet1 hs ⟨fun c => absurd c (by decide), fun _ => ms_lane1 hl ⟨fun _ => ms_whyN hM hs n2 ⟨fun c => absurd c (by decide), fun _ => h2 J h⟩, fun c => absurd c (by decide)⟩⟩
      · unfold wp_X6_isNothing
        rw [k3]
        refine ⟨fun _ => ⟨fun _ => ⟨vp_in_nI hs (by decide), ?_⟩, fun c => absurd rfl c⟩, fun c => absurd c (nI_nm1 (by omega))⟩
        by_cases hll : l' = l
        · subst hll
          refine ⟨fun c => absurd rfl c, fun _ => ⟨fun _ => ⟨vp_in_nI hs (by decide), ?_⟩, fun c => absurd rfl c⟩⟩
          refine sp_covers (x2 := nI 1) k2 k4 (fun i n e1 e2 hin => ?_) (fun hno3 => ⟨fun c => absurd rfl c, fun _ => hp _ _ (fun p2 h2 => ?_)⟩)
          · have hn1 : 1 = n := by
              have hn31 : n < 2 ^ 31 := by omega
              exact (nI_eq (by decide) hn31).mp e2
            subst hn1
            subst e1
            refine ⟨fun _ => ⟨vp_in_nI hs (by decide), sp_put hl k3 (by omega) (hp _ _ (fun p2 h2 => ?_))⟩, fun c => absurd c (by decide)⟩
            unfold wp_X11_item
            refine ms_sheet1 hs ⟨fun c => absurd c (by decide), fun _ => ms_lane1 hl ⟨fun _ => ms_why (n := 1) hM hs k2 k6 k5 (by decide) (fun i' e' _ => ⟨fun _ => ms_cut hl ?_, fun c => absurd rfl c⟩) (fun hno3 => absurd rfl (hno3 i hin)), fun c => absurd c (by decide)⟩⟩
            rw [show (24 : Int32) * nI s = nI (24 * s) from pk_mul 24 s, nI_add, nI_clamp (by omega), hM.items, r2]
            refine ⟨vp_in_nI (by omega) (by decide), h2 _ (h.J (hSh.sub hs (fun q d1 d2 => by rw [stj_ne _ _ _ d2, stj_ne _ _ _ d1]) (fun u hu => by rw [stj_at, pk_uLn (by omega), stj_ne _ _ _ (by omega)]) (fun j hj => ?_)))⟩
            rw [stj_ne _ _ _ (by omega), stj_at, stj_at, stj_ne _ _ _ (by omega)]
            by_cases hji : j = i
            · subst hji; rw [pk_uLs, pk_uLs]
            · rw [pk_uLn hji, pk_uLn (by omega)]; exact k7 j hj
          · unfold wp_X11_item
            refine ms_sheet1 hs ⟨fun c => absurd c (by decide), fun _ => ms_lane1 hl ⟨fun _ => ms_why (n := 1) hM hs k2 k6 k5 (by decide) (fun i' e' hle => absurd rfl (hno3 i' 1 hle e')) (fun _ => ⟨fun c => absurd c (by decide), fun _ => h2 J h⟩), fun c => absurd c (by decide)⟩⟩
        · have hne : ¬ nI l' = nI l := fun e => hll ((nI_eq (by omega) (by omega)).mp e)
          refine ⟨fun _ => ⟨fun c => absurd c (by decide), fun _ => hp _ _ (fun p2 h2 => ?_)⟩, fun c => absurd c hne⟩
          unfold wp_X11_item
          exact ms_sheet1 hs ⟨fun c => absurd c (by decide), fun _ => ms_lane1 hl ⟨fun _ => ms_whyC hM hs k2 k6 k5 hne ⟨fun c => absurd c (by decide), fun _ => h2 J h⟩, fun c => absurd c (by decide)⟩⟩
    · refine sp_lane0 hno2 ⟨fun c => absurd rfl c, fun _ => ⟨fun c => absurd c (by decide), fun _ => hp _ _ (fun p2 h2 => ?_)⟩⟩
      unfold wp_X11_item
      exact ms_sheet1 hs ⟨fun c => absurd c (by decide), fun _ => ms_lane0 hno2 ⟨fun c => absurd rfl c, fun _ => h2 J h⟩⟩
  · refine sp_sheet0 hno ⟨fun _ => ⟨fun c => absurd c (by decide), fun _ => hp _ _ (fun p2 h2 => ?_)⟩, fun c => absurd rfl c⟩
    unfold wp_X11_item
    exact ms_sheet0 hno ⟨fun _ => h2 J h, fun c => absurd rfl c⟩
theorem op_drop {I : KI} {J : KJ} {Q : KQ} {b : Nat} {x1 : Int32} {post : Int32 → KI → Prop} (h : Rel I J Q b) (hp : ∀ r I4, (∀ p2 : Int32 → KI → Prop, (∀ I5, Rel I5 J Q b → p2 r I5) → wp_X11_drop I4 Q 287 x1 p2) → post r I4) : wp_X10_drop I Q 0 x1 post := by
  obtain ⟨⟨hQ, ⟨π2, hP2, hI2⟩, hT, hSh⟩, hC⟩ := id h
  obtain ⟨⟨a0, a1, a2, a3, a4, a5, a6, a7, a8, a9, a10⟩, -, -, hrow, hM⟩ := id hQ
  unfold wp_X10_drop
  rw [a10]
  rcases nodeCase x1 4 with ⟨s, hs, rfl⟩ | hno
  · obtain ⟨r1, r2⟩ := hrow s hs
    refine sp_sheet1 hs ⟨fun _ => ⟨vp_in_nI hs (by decide), ?_⟩, fun c => absurd c (by decide)⟩
    rw [nI_clamp (n := s) (by omega), r1]
    rcases hSh s hs with ⟨n1, n2⟩ | ⟨l, t, k1, k2, k3, k4, k5, k6, k7⟩
    · refine ⟨fun c => absurd n1 c, fun _ => ⟨fun c => absurd c (by decide), fun _ => hp _ _ (fun p2 h2 => ?_)⟩⟩
      unfold wp_X11_drop
      rw [hM.many, nI_clamp (n := s) (by omega), n2]
      exact ms_sheet1 hs ⟨fun _ => ⟨vp_in_nI hs (by decide), fun c => absurd c (by decide), fun _ => h2 I h⟩, fun c => absurd c (by decide)⟩
    · refine ⟨fun _ => ⟨fun _ => ⟨vp_in_nI hs (by decide), ?_⟩, fun c => absurd rfl c⟩, fun c => ?_⟩
      · unfold wp_X6_lose
        have e2 : sti I (279 + 2 * s) 1 (-1) (279 + 2 * s) 2 = nI t := by rw [sti_at, pk_un (by decide), k4]
        rw [e2]
        refine hp _ _ (fun p2 h2 => ?_)
        have e : ∀ q, q ≠ 279 + 2 * s → sti I (279 + 2 * s) 1 (-1) q = I q := fun q hq => sti_ne _ _ _ hq
        unfold wp_X11_drop
        rw [hM.many, nI_clamp (n := s) (by omega), e 302 (by omega), k6]
        refine ms_sheet1 hs ⟨fun _ => ⟨vp_in_nI hs (by decide), fun _ => ⟨vp_in_nI hs (by decide), h2 _ ?_⟩, fun c => absurd (nI_pos' (by omega)) c⟩, fun c => absurd c (by decide)⟩
        have e3 : ∀ q, q ≠ 279 + 2 * s → q ≠ 302 → sti (sti I (279 + 2 * s) 1 (-1)) 302 s (-1) q = I q := fun q d1 d2 => by rw [sti_ne _ _ _ d2, e q d1]
        obtain ⟨π, hP, S, hs', m, hC⟩ := hC
        obtain ⟨tm, t1, t2, t3, t4⟩ := hT
        refine ⟨⟨hQ, ⟨π2, hP2, ?_⟩, ⟨tm, t1, by rw [e3 274 (by omega) (by omega)]; exact t2, by rw [e3 287 (by omega) (by omega)]; exact t3, fun j hj => by rw [e3 275 (by omega) (by omega), e3 299 (by omega) (by omega)]; exact t4 j hj⟩, fun u hu => ?_⟩, π, hP, S, hs', m, ?_⟩
        · rcases hI2 with ⟨q1, q2⟩ | ⟨q1, q2, S, hs, m, r1, r2, r3, r4, r5, r6⟩
          · exact Or.inl ⟨by rw [e3 0 (by omega) (by omega)]; exact q1, by rw [e3 287 (by omega) (by omega)]; exact q2⟩
          · refine Or.inr ⟨by rw [e3 0 (by omega) (by omega)]; exact q1, by rw [e3 287 (by omega) (by omega)]; exact q2, S, hs, m, r1.fr (fun k _ _ => e3 k (by omega) (by omega)), r2.fr hP2 (fun k _ _ => e3 k (by omega) (by omega)), by rw [e3 290 (by omega) (by omega)]; exact r3, by rw [e3 287 (by omega) (by omega)]; exact r4, ?_, r6⟩
            rw [e3 290 (by omega) (by omega), e3 287 (by omega) (by omega)]
            exact r5
        · by_cases hus : u = s
          · subst hus
            exact Or.inl ⟨by rw [sti_ne _ _ _ (by omega), sti_at, pk_us], by rw [sti_at, pk_us]⟩
          · have hh := hSh u hu
            rw [e3 (279 + 2 * u) (by omega) (by omega), e3 301 (by omega) (by omega), sti_at, pk_un hus, e 302 (by omega)]
            exact hh
        · obtain ⟨r1, r2, r3, r4, ⟨a, ha, r5, r6⟩, r7, r8, r9⟩ := hC
          exact RelC.mk2 (r1.fr (fun k _ _ => e3 k (by omega) (by omega))) (r2.fr hP (fun k _ _ => e3 k (by omega) (by omega))) (by rw [e3 288 (by omega) (by omega)]; exact r3) (by rw [e3 287 (by omega) (by omega)]; exact r4) ha (by rw [e3 287 (by omega) (by omega)]; exact r5) (by rw [e3 289 (by omega) (by omega)]; exact r6) r7 r8 r9
      · rw [k3] at c
        exact absurd c (nI_nm1 (by omega))
  · refine sp_sheet0 hno ⟨fun c => absurd rfl c, fun _ => hp _ _ (fun p2 h2 => ?_)⟩
    unfold wp_X11_drop
    exact ms_sheet0 hno ⟨fun c => absurd rfl c, fun _ => h2 I h⟩
