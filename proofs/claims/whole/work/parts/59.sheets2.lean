/-! PURE, 22: sheet, copy, film, could -/
theorem lp_renew {I : KI} {Q : KQ} {h a : Nat} {post : KI → KJ → Prop} (J0 : KJ) (ha : rq Q h 0 = a) (hp : ∀ J, (∀ q, q ≠ a → J q = J0 q) → (∀ j, j < 24 → J a j = 0) → post I J) : ∀ d i J, i + d = 24 → (∀ q, q ≠ a → J q = J0 q) → (∀ j, j < i → J a j = 0) → wp_X6_renew_L12 I Q h post (d + 1) J (nI i) := by
  intro d
  induction d with
  | zero =>
    intro i J hi q1 q2
    have : i = 24 := by omega
    subst this
    unfold wp_X6_renew_L12
    exact br_t (nI_le (a := 24) (Nat.le_refl _) (by decide)) (hp J q1 q2)
  | succ d ih =>
    intro i J hi q1 q2
    unfold wp_X6_renew_L12
    rw [ha, nI_clamp (n := i) (by omega), nI_1]
    refine br_f (nI_ge (b := 24) (by omega) (by decide)) ⟨vp_in_nI (by omega) (by decide), ih (i + 1) _ (by omega) (fun q hq => by rw [stj_ne _ _ _ hq]; exact q1 q hq) (fun j hj => ?_)⟩
    rw [stj_at]
    by_cases hji : j = i
    · subst hji; rw [pk_uLs]
    · rw [pk_uLn hji]; exact q2 j (by omega)
theorem lp_mrenew {I : KI} {Q : KQ} {s : Nat} {x3 : Int32} {post : Int32 → KI → KJ → Prop} (J0 : KJ) (hM : MdQ Q) (hs : s < 4) (hp : ∀ J, (∀ q, q ≠ 303 → J q = J0 q) → (∀ t, (t < 24 * s ∨ 24 * s + 24 ≤ t) → J 303 t = J0 303 t) → (∀ j, j < 24 → J 303 (24 * s + j) = 0) → post x3 I J) : ∀ d i J, i + d = 24 → (∀ q, q ≠ 303 → J q = J0 q) → (∀ t, (t < 24 * s ∨ 24 * s + 24 ≤ t) → J 303 t = J0 303 t) → (∀ j, j < i → J 303 (24 * s + j) = 0) → wp_X11_sheet_L51 I Q 287 (nI s) x3 post (d + 1) J (nI i) := by
  intro d
  induction d with
  | zero =>
    intro i J hi q1 q2 q3
    have : i = 24 := by omega
    subst this
    unfold wp_X11_sheet_L51
    exact br_t (nI_le (a := 24) (Nat.le_refl _) (by decide)) (hp J q1 q2 q3)
  | succ d ih =>
    intro i J hi q1 q2 q3
    unfold wp_X11_sheet_L51
    rw [hM.items, show (24 : Int32) * nI s = nI (24 * s) from pk_mul 24 s, nI_add, nI_clamp (n := 24 * s + i) (by omega), nI_1]
    refine br_f (nI_ge (b := 24) (by omega) (by decide)) ⟨vp_in_nI (by omega) (by decide), ih (i + 1) _ (by omega) (fun q hq => by rw [stj_ne _ _ _ hq]; exact q1 q hq) (fun t ht => by rw [stj_at, pk_uLn (by omega)]; exact q2 t ht) (fun j hj => ?_)⟩
    rw [stj_at]
    by_cases hji : j = i
    · subst hji; rw [pk_uLs]
    · rw [pk_uLn (by omega)]; exact q3 j (by omega)
theorem op_sheet {I : KI} {J : KJ} {Q : KQ} {b : Nat} {x1 x2 x3 : Int32} {post : Int32 → KI → KJ → Prop} (h : Rel I J Q b) (hp : ∀ r I4 J4, (∀ p2 : Int32 → KI → KJ → Prop, (∀ I5 J5, Rel I5 J5 Q b → p2 r I5 J5) → wp_X11_sheet I4 J4 Q 287 x1 x2 x3 p2) → post r I4 J4) : wp_X10_sheet I J Q 0 x1 x2 x3 post := by
  obtain ⟨⟨hQ, ⟨π2, hP2, hI2⟩, hT, hSh⟩, hC⟩ := id h
  obtain ⟨⟨a0, a1, a2, a3, a4, a5, a6, a7, a8, a9, a10⟩, -, -, hrow, hM⟩ := id hQ
  unfold wp_X10_sheet
  rw [a10]
  rcases nodeCase x1 4 with ⟨s, hs, rfl⟩ | hno
  · obtain ⟨r1, r2⟩ := hrow s hs
    refine sp_sheet1 hs ⟨fun c => absurd c (by decide), fun _ => ?_⟩
    rcases nodeCase x2 4 with ⟨l, hl, rfl⟩ | hno2
    · refine sp_lane1 hl ⟨fun c => absurd c (by decide), fun _ => ⟨fun c => ⟨fun c2 => ⟨vp_in_nI hs (by decide), ?_⟩, fun c2 => hp _ _ _ (fun p2 h2 => ?_)⟩, fun c => hp _ _ _ (fun p2 h2 => ?_)⟩⟩
      · obtain ⟨n, hn, rfl⟩ := nI_of (x := x3) (fun z => by
          rw [Int32.lt_iff_toInt_lt] at z; rw [Int32.le_iff_toInt_le] at c2; omega)
        have hn24 : n ≤ 24 := (nI_leI (b := 24) hn (by decide)).mp c
        rw [nI_clamp (n := s) (by omega), r1]
        refine ⟨25, lp_renew J r2 (fun J1 w1 w2 => hp _ _ _ (fun p2 h2 => ?_)) 24 0 J rfl (fun _ _ => rfl) (fun j hj => absurd hj (Nat.not_lt_zero j))⟩
        obtain ⟨I1, hI1⟩ : ∃ I1, I1 = sti (sti I (279 + 2 * s) 1 (nI l)) (279 + 2 * s) 2 (nI n) := ⟨_, rfl⟩
        rw [← hI1]
        have e : ∀ q, q ≠ 279 + 2 * s → I1 q = I q := fun q hq => by rw [hI1, sti_ne _ _ _ hq, sti_ne _ _ _ hq]
        have g1 : I1 (279 + 2 * s) 1 = nI l := by rw [hI1, sti_at, pk_un (by decide), sti_at, pk_us]
        have g2 : I1 (279 + 2 * s) 2 = nI n := by rw [hI1, sti_at, pk_us]
        unfold wp_X11_sheet
        rw [hM.lane, hM.many, nI_clamp (n := s) (by omega)]
        refine ms_sheet1 hs ⟨fun c => absurd c (by decide), fun _ => ms_lane1 hl ⟨fun c => absurd c (by decide), fun _ => ⟨fun _ => ⟨fun _ => ⟨vp_in_nI hs (by decide), vp_in_nI hs (by decide), 25, ?_⟩, fun c' => absurd c2 c'⟩, fun c' => absurd c c'⟩⟩⟩
        refine lp_mrenew J1 hM hs (fun J2 z1 z2 z3 => h2 _ _ ?_) 24 0 J1 rfl (fun _ _ => rfl) (fun _ _ => rfl) (fun j hj => absurd hj (Nat.not_lt_zero j))
        have e3 : ∀ q, q ≠ 279 + 2 * s → q ≠ 301 → q ≠ 302 → sti (sti I1 301 s (nI l)) 302 s (nI n) q = I q := fun q d1 d2 d3 => by rw [sti_ne _ _ _ d3, sti_ne _ _ _ d2, e q d1]
        have eN : ∀ u, u < 4 → u ≠ s → sti (sti I1 301 s (nI l)) 302 s (nI n) 301 u = I 301 u ∧ sti (sti I1 301 s (nI l)) 302 s (nI n) 302 u = I 302 u := fun u _ hus => ⟨by rw [sti_ne _ _ _ (by decide), sti_at, pk_un hus, e 301 (by omega)], by rw [sti_at, pk_un hus, sti_ne _ _ _ (by decide), e 302 (by omega)]⟩
        obtain ⟨π, hP, S, hs', m, hC⟩ := hC
        obtain ⟨tm, t1, t2, t3, t4⟩ := hT
        refine ⟨⟨hQ, ⟨π2, hP2, ?_⟩, ⟨tm, t1, by rw [e3 274 (by omega) (by omega) (by omega)]; exact t2, by rw [e3 287 (by omega) (by omega) (by omega)]; exact t3, fun j hj => by rw [e3 275 (by omega) (by omega) (by omega), e3 299 (by omega) (by omega) (by omega)]; exact t4 j hj⟩, fun u hu => ?_⟩, π, hP, S, hs', m, ?_⟩
        · rcases hI2 with ⟨q1, q2⟩ | ⟨q1, q2, S, hs, m, r1, r2, r3, r4, r5, r6⟩
          · exact Or.inl ⟨by rw [e3 0 (by omega) (by omega) (by omega)]; exact q1, by rw [e3 287 (by omega) (by omega) (by omega)]; exact q2⟩
          · refine Or.inr ⟨by rw [e3 0 (by omega) (by omega) (by omega)]; exact q1, by rw [e3 287 (by omega) (by omega) (by omega)]; exact q2, S, hs, m, r1.fr (fun k _ _ => e3 k (by omega) (by omega) (by omega)), r2.fr hP2 (fun k _ _ => e3 k (by omega) (by omega) (by omega)), by rw [e3 290 (by omega) (by omega) (by omega)]; exact r3, by rw [e3 287 (by omega) (by omega) (by omega)]; exact r4, ?_, r6⟩
            rw [e3 290 (by omega) (by omega) (by omega), e3 287 (by omega) (by omega) (by omega)]
            exact r5
        · by_cases hus : u = s
          · subst hus
            refine Or.inr ⟨l, n, hl, hn24, ?_, ?_, ?_, ?_, fun j hj => ?_⟩
            · rw [sti_ne _ _ _ (by omega), sti_ne _ _ _ (by omega)]; exact g1
            · rw [sti_ne _ _ _ (by omega), sti_ne _ _ _ (by omega)]; exact g2
            · rw [sti_ne _ _ _ (by decide), sti_at, pk_us]
            · rw [sti_at, pk_us]
            · rw [z1 _ (by omega), w2 j hj, z3 j hj]
          · have hh := hSh u hu
            rw [e3 (279 + 2 * u) (by omega) (by omega) (by omega), (eN u hu hus).1, (eN u hu hus).2]
            rcases hh with q | ⟨l', n', q1, q2, q3, q4, q5, q6, q7⟩
            · exact Or.inl q
            · refine Or.inr ⟨l', n', q1, q2, q3, q4, q5, q6, fun j hj => ?_⟩
              rw [z1 _ (by omega), w1 _ (by omega), z2 _ (by omega), w1 303 (by omega)]
              exact q7 j hj
        · obtain ⟨r1, r2, r3, r4, ⟨a, ha, r5, r6⟩, r7, r8, r9⟩ := hC
          exact RelC.mk2 (r1.fr (fun k _ _ => e3 k (by omega) (by omega) (by omega))) (r2.fr hP (fun k _ _ => e3 k (by omega) (by omega) (by omega))) (by rw [e3 288 (by omega) (by omega) (by omega)]; exact r3) (by rw [e3 287 (by omega) (by omega) (by omega)]; exact r4) ha (by rw [e3 287 (by omega) (by omega) (by omega)]; exact r5) (by rw [e3 289 (by omega) (by omega) (by omega)]; exact r6) r7 r8 r9
      · unfold wp_X11_sheet
        exact ms_sheet1 hs ⟨fun c => absurd c (by decide), fun _ => ms_lane1 hl ⟨fun c => absurd c (by decide), fun _ => ⟨fun _ => ⟨fun c' => absurd c' c2, fun _ => h2 I J h⟩, fun c' => absurd c c'⟩⟩⟩
      · unfold wp_X11_sheet
        exact ms_sheet1 hs ⟨fun c => absurd c (by decide), fun _ => ms_lane1 hl ⟨fun c => absurd c (by decide), fun _ => ⟨fun c' => absurd c' c, fun _ => h2 I J h⟩⟩⟩
    · refine sp_lane0 hno2 ⟨fun _ => hp _ _ _ (fun p2 h2 => ?_), fun c => absurd rfl c⟩
      unfold wp_X11_sheet
      exact ms_sheet1 hs ⟨fun c => absurd c (by decide), fun _ => ms_lane0 hno2 ⟨fun _ => h2 I J h, fun c => absurd rfl c⟩⟩
  · refine sp_sheet0 hno ⟨fun _ => hp _ _ _ (fun p2 h2 => ?_), fun c => absurd rfl c⟩
    unfold wp_X11_sheet
    exact ms_sheet0 hno ⟨fun _ => h2 I J h, fun c => absurd rfl c⟩
/-- copying within one row of items, so that what is read is what was there -/
theorem lp_copy {Q : KQ} {f i t j n : Nat} {post : Int32 → KJ → Prop} (J0 : KJ) (hM : MdQ Q) (hf : f < 4) (ht : t < 4) (hi : i + n ≤ 24) (hj : j + n ≤ 24) (hp : ∀ J, (∀ q, q ≠ 303 → J q = J0 q) → (∀ x, J 303 x = if 24 * t + j ≤ x ∧ x < 24 * t + j + n then J0 303 (24 * f + i + (x - (24 * t + j))) else J0 303 x) → post (nI n) J) : ∀ d k J, k + d = n → (∀ q, q ≠ 303 → J q = J0 q) → (j ≤ i → ∀ x, J 303 x = if 24 * t + j ≤ x ∧ x < 24 * t + j + k then J0 303 (24 * f + i + (x - (24 * t + j))) else J0 303 x) → (i < j → ∀ x, J 303 x = if 24 * t + j + (n - k) ≤ x ∧ x < 24 * t + j + n then J0 303 (24 * f + i + (x - (24 * t + j))) else J0 303 x) → wp_X11_copy_L101 Q 287 (nI f) (nI i) (nI t) (nI j) (nI n) post (d + 1) J (nI k) := by
  intro d
  induction d with
  | zero =>
    intro k J hk q1 q2 q3
    have : k = n := by omega
    subst this
    unfold wp_X11_copy_L101
    refine br_t (nI_le (Nat.le_refl _) (by omega)) (hp J q1 ?_)
    by_cases hij : j ≤ i
    · exact q2 hij
    · intro x
      have := q3 (by omega) x
      rw [Nat.sub_self, Nat.add_zero] at this
      exact this
  | succ d ih =>
    intro k J hk q1 q2 q3
    unfold wp_X11_copy_L101
    rw [hM.items, show (24 : Int32) * nI f = nI (24 * f) from pk_mul 24 f, show (24 : Int32) * nI t = nI (24 * t) from pk_mul 24 t, nI_add (24 * f), nI_add (24 * t), show nI n - (1 : Int32) = nI (n - 1) from pk_sub (a := n) (b := 1) (by omega), pk_sub (a := n - 1) (b := k) (by omega), nI_add, nI_add, nI_add, nI_add, nI_1, nI_clamp (n := 24 * f + i + k) (by omega), nI_clamp (n := 24 * t + j + k) (by omega), nI_clamp (n := 24 * f + i + (n - 1 - k)) (by omega), nI_clamp (n := 24 * t + j + (n - 1 - k)) (by omega)]
    refine br_f (nI_ge (by omega) (by omega)) ⟨fun c => ⟨vp_in_nI (by omega) (by decide), vp_in_nI (by omega) (by decide), ?_⟩, fun c => ⟨vp_in_nI (by omega) (by decide), vp_in_nI (by omega) (by decide), ?_⟩⟩
    · have hji := (nI_leI (by omega) (by omega)).mp c
      refine ih (k + 1) _ (by omega) (fun q hq => by rw [stj_ne _ _ _ hq]; exact q1 q hq) (fun _ x => ?_) (fun z => by omega)
      rw [stj_at]
      by_cases hx : x = 24 * t + j + k
      · subst hx
        rw [pk_uLs, if_pos (by omega), q2 hji, if_neg (by omega)]
        congr 1
        omega
      · rw [pk_uLn hx, q2 hji]
        by_cases hc : 24 * t + j ≤ x ∧ x < 24 * t + j + k
        · rw [if_pos hc, if_pos (by omega)]
        · rw [if_neg hc, if_neg (by omega)]
    · have hji : i < j := Nat.lt_of_not_le (fun z => c (nI_le z (by omega)))
      refine ih (k + 1) _ (by omega) (fun q hq => by rw [stj_ne _ _ _ hq]; exact q1 q hq) (fun z => by omega) (fun _ x => ?_)
      rw [stj_at]
      by_cases hx : x = 24 * t + j + (n - 1 - k)
      · subst hx
        rw [pk_uLs, if_pos (by omega), q3 hji, if_neg (by omega)]
        congr 1
        omega
      · rw [pk_uLn hx, q3 hji]
        by_cases hc : 24 * t + j + (n - k) ≤ x ∧ x < 24 * t + j + n
        · rw [if_pos hc, if_pos (by omega)]
        · rw [if_neg hc, if_neg (by omega)]
set_option maxHeartbeats 1000000 in
theorem op_copy {I : KI} {J : KJ} {Q : KQ} {b : Nat} {x1 x2 x3 x4 x5 : Int32} {post : Int32 → KJ → Prop} (h : Rel I J Q b) (hp : ∀ r J4, (∀ p2 : Int32 → KJ → Prop, (∀ J5, Rel I J5 Q b → p2 r J5) → wp_X11_copy I J4 Q 287 x1 x2 x3 x4 x5 p2) → post r J4) : wp_X10_copy I J Q 0 x1 x2 x3 x4 x5 post := by
  obtain ⟨⟨hQ, hI2, hT, hSh⟩, hC⟩ := id h
  obtain ⟨⟨a0, a1, a2, a3, a4, a5, a6, a7, a8, a9, a10⟩, -, -, hrow, hM⟩ := id hQ
  unfold wp_X10_copy
  rw [a10]
  rcases nodeCase x1 4 with ⟨f, hf, rfl⟩ | hno
  · obtain ⟨r1, r2⟩ := hrow f hf
    refine sp_sheet1 hf ⟨fun c => absurd c (by decide), fun _ => ?_⟩
    rcases nodeCase x3 4 with ⟨t, ht, rfl⟩ | hno2
    · obtain ⟨s1, s2⟩ := hrow t ht
      refine sp_sheet1 ht ⟨fun _ => ⟨vp_in_nI hf (by decide), vp_in_nI ht (by decide), ?_⟩, fun c => absurd c (by decide)⟩
      rw [nI_clamp (n := f) (by omega), nI_clamp (n := t) (by omega), r1, s1]
      rcases hSh f hf with ⟨n1, n2⟩ | ⟨l, m, k1, k2, k3, k4, k5, k6, k7⟩
      · refine ⟨fun c => absurd n1 c, fun _ => ⟨fun _ => hp _ _ (fun p2 h2 => ?_), fun c => absurd c (by decide)⟩⟩
        unfold wp_X11_copy
        rw [hM.many, nI_clamp (n := f) (by omega), n2]
        exact ms_sheet1 hf ⟨fun c => absurd c (by decide), fun _ => ms_sheet1 ht ⟨fun _ => ⟨vp_in_nI hf (by decide), fun _ => h2 J h, fun c => absurd (show (-1 : Int32) < 0 by decide) c⟩, fun c => absurd c (by decide)⟩⟩
      · unfold wp_X6_isNothing
        refine ⟨fun _ => ⟨fun c => absurd rfl c, fun _ => ?_⟩, fun c => by rw [k3] at c; exact absurd c (nI_nm1 (by omega))⟩
        rcases hSh t ht with ⟨n1, n2⟩ | ⟨l', m', u1, u2, u3, u4, u5, u6, u7⟩
        · refine ⟨fun c => absurd n1 c, fun _ => ⟨fun c => absurd c (by decide), fun _ => hp _ _ (fun p2 h2 => ?_)⟩⟩
          unfold wp_X11_copy
          rw [hM.many, nI_clamp (n := f) (by omega), nI_clamp (n := t) (by omega), n2, k6]
          exact ms_sheet1 hf ⟨fun c => absurd c (by decide), fun _ => ms_sheet1 ht ⟨fun _ => ⟨vp_in_nI hf (by decide), fun c => absurd c (nI_pos (by omega)), fun _ => ⟨vp_in_nI ht (by decide), fun c => absurd c (by decide), fun _ => h2 J h⟩⟩, fun c => absurd c (by decide)⟩⟩
        · rw [k3, u3]
          refine ⟨fun _ => ⟨fun _ => ?_, fun c => absurd rfl c⟩, fun c => absurd c (nI_nm1 (by omega))⟩
          have mod : ∀ J4 (p2 : Int32 → KJ → Prop), ((¬ nI l = nI l' → p2 (-12) J4) ∧ (nI l = nI l' → ((x5 < 0 → p2 (-13) J4) ∧ (¬ x5 < 0 → wp_X11_why I Q 287 (nI f) (nI l) x2 x5 (fun r14 => ((¬ r14 = 0 → p2 (-13) J4) ∧ (r14 = 0 → (vp_in (nI t) 4 ∧ wp_X11_why I Q 287 (nI t) (nI l') x4 x5 (fun r17 => ((r17 = 0 → (∃ q101, wp_X11_copy_L101 Q 287 (nI f) x2 (nI t) x4 x5 p2 q101 J4 0)) ∧ (¬ r17 = 0 → p2 (-13) J4))))))))))) → wp_X11_copy I J4 Q 287 (nI f) x2 (nI t) x4 x5 p2 := by
            rintro J4 p2 ⟨h1, h2⟩
            unfold wp_X11_copy
            rw [hM.many, hM.lane, nI_clamp (n := f) (by omega), nI_clamp (n := t) (by omega), u6, k6, k5, u5]
            exact ms_sheet1 hf ⟨fun c => absurd c (by decide), fun _ => ms_sheet1 ht ⟨fun _ => ⟨vp_in_nI hf (by decide), fun c => absurd c (nI_pos (by omega)), fun _ => ⟨vp_in_nI ht (by decide), fun _ => ⟨vp_in_nI hf (by decide), vp_in_nI ht (by decide), fun c => ⟨(h2 c).1, fun c2 => ⟨vp_in_nI hf (by decide), (h2 c).2 c2⟩⟩, h1⟩, fun c => absurd (nI_pos' (by omega)) c⟩⟩, fun c => absurd c (by decide)⟩⟩
          refine ⟨fun hll => ?_, fun hll => hp _ _ (fun p2 h2 => mod J p2 ⟨fun _ => h2 J h, fun c => absurd c hll⟩)⟩
          have bad : ∀ p2 : Int32 → KJ → Prop, (∀ J5, Rel I J5 Q b → p2 (-13) J5) → ¬ x5 < 0 → ((∀ i n, i + n ≤ m → x2 = nI i → ¬ x5 = nI n) ∨ (∀ i n, i + n ≤ m' → x4 = nI i → ¬ x5 = nI n)) → wp_X11_copy I J Q 287 (nI f) x2 (nI t) x4 x5 p2 := by
            intro p2 h2 hx5 hor
            obtain ⟨n, hn, rfl⟩ := nI_of hx5
            refine mod J p2 ⟨fun c => absurd hll c, fun _ => ⟨fun c => absurd c hx5, fun _ => ?_⟩⟩
            by_cases hn30 : n < 2 ^ 30
            · refine ms_why hM hf k2 k6 k5 hn30 (fun i e1 hle => ⟨fun c => absurd rfl c, fun _ => ⟨vp_in_nI ht (by decide), ms_why hM ht u2 u6 u5 hn30 (fun i' e2 hle2 => ⟨fun _ => ?_, fun c => absurd rfl c⟩) (fun _ => ⟨fun c => absurd c (by decide), fun _ => h2 J h⟩)⟩⟩) (fun _ => ⟨fun _ => h2 J h, fun c => absurd c (by decide)⟩)
              rcases hor with hor | hor
              · exact absurd rfl (hor i n hle e1)
              · exact absurd rfl (hor i' n hle2 e2)
            · unfold wp_X11_why
              rw [hM.many, hM.lane, nI_clamp (n := f) (by omega), k6, k5]
              refine ⟨vp_in_nI hf (by decide), fun _ => ⟨vp_in_nI hf (by decide), fun _ => ⟨fun _ => ⟨fun _ => h2 J h, fun c => absurd c (by decide)⟩, fun c => ⟨vp_in_nI hf (by decide), fun _ => ⟨fun _ => h2 J h, fun c => absurd c (by decide)⟩, fun c2 => ?_⟩⟩, fun c => absurd rfl c⟩, fun c => absurd (nI_pos' (by omega)) c⟩
              exfalso
              apply c2
              obtain ⟨i, hi, rfl⟩ := nI_of c
              rw [Int32.lt_iff_toInt_lt, nI_toInt hi]
              have e1 : (nI m - nI n).toInt = (m : Int) - n := by
                rw [Int32.toInt_sub, nI_toInt (by omega), nI_toInt hn]
                apply Int.bmod_eq_of_le <;> omega
              omega
          refine sp_covers k2 k4 (fun i n e1 e2 hin => ?_) (fun hno3 => ⟨fun _ => hp _ _ (fun p2 h2 => ?_), fun c => absurd rfl c⟩)
          · refine ⟨fun c => absurd c (by decide), fun _ => sp_covers u2 u4 (fun j n' e3 e4 hjn => ?_) (fun hno3 => ⟨fun c => absurd rfl c, fun _ => hp _ _ (fun p2 h2 => ?_)⟩)⟩
            · subst e1
              subst e2
              subst e3
              have hnn : n = n' := (nI_eq (by omega) (by omega)).mp e4
              subst hnn
              refine ⟨fun _ => ⟨nI_pos (by omega), nI_pos (by omega), nI_pos (by omega), ?_⟩, fun c => absurd c (by decide)⟩
              rw [nI_clamp (n := i) (by omega), nI_clamp (n := j) (by omega), nI_clamp (n := n) (by omega), r2, s2]
              refine ⟨by omega, by omega, hp _ _ (fun p2 h2 => mod _ p2 ⟨fun c => absurd hll c, fun _ => ⟨fun c => absurd c (nI_pos (by omega)), fun _ => ?_⟩⟩)⟩
              refine ms_why hM hf k2 k6 k5 (by omega) (fun i' _ _ => ⟨fun c => absurd rfl c, fun _ => ⟨vp_in_nI ht (by decide), ms_why hM ht u2 u6 u5 (by omega) (fun j' _ _ => ⟨fun _ => ⟨n + 1, ?_⟩, fun c => absurd rfl c⟩) (fun z => absurd rfl (z j (by omega)))⟩⟩) (fun z => absurd rfl (z i (by omega)))
              have e303 : cpj J (280 + 2 * f) (280 + 2 * t) i j n 303 = J 303 := by
                unfold cpj
                exact upk_n (by omega)
              refine lp_copy (cpj J (280 + 2 * f) (280 + 2 * t) i j n) hM hf ht (by omega) (by omega) (fun J2 z1 z2 => h2 J2 (h.J (hSh.sub ht (fun q d1 d2 => ?_) (fun x hx => ?_) (fun x hx => ?_)))) n 0 _ (by omega) (fun _ _ => rfl) (fun _ x => by rw [if_neg (by omega)]) (fun _ x => by rw [if_neg (by omega)])
              · rw [z1 q d2]
                unfold cpj
                exact upk_n d1
              · rw [z2 x, if_neg (by omega), e303]
              · rw [z1 _ (by omega), z2, e303]
                unfold cpj
                rw [upk_s]
                by_cases hc : j ≤ x ∧ x < j + n
                · rw [pk_cpy_in hc.1 hc.2, if_pos (by omega), k7 _ (by omega)]
                  congr 1
                  omega
                · rw [pk_cpy_out (by omega), if_neg (by omega)]
                  exact u7 x hx
            · by_cases hx5 : x5 < 0
              · exact mod J p2 ⟨fun c => absurd hll c, fun _ => ⟨fun _ => h2 J h, fun c => absurd hx5 c⟩⟩
              · exact bad p2 h2 hx5 (Or.inr hno3)
          · by_cases hx5 : x5 < 0
            · exact mod J p2 ⟨fun c => absurd hll c, fun _ => ⟨fun _ => h2 J h, fun c => absurd hx5 c⟩⟩
            · exact bad p2 h2 hx5 (Or.inl hno3)
    · refine sp_sheet0 hno2 ⟨fun c => absurd rfl c, fun _ => hp _ _ (fun p2 h2 => ?_)⟩
      unfold wp_X11_copy
      exact ms_sheet1 hf ⟨fun c => absurd c (by decide), fun _ => ms_sheet0 hno2 ⟨fun c => absurd rfl c, fun _ => h2 J h⟩⟩
  · refine sp_sheet0 hno ⟨fun _ => hp _ _ (fun p2 h2 => ?_), fun c => absurd rfl c⟩
    unfold wp_X11_copy
    exact ms_sheet0 hno ⟨fun _ => h2 J h, fun c => absurd rfl c⟩
