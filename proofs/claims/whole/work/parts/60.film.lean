/-! PURE, 23: film, could -/
theorem lp_film {I : KI} {Q : KQ} {v s l i r : Nat} {f : Nat → Nat} {post : Int32 → KJ → Prop} (J0 : KJ) (hQ : ClsQ Q) (hs : s < 4) (hv : v < 6) (hl : l < 4) (hI : I (279 + 2 * s) 1 = nI l) (hf : ∀ t, t < 8 → I (1 + 6 + 2 * v) t = nI (f t)) (hb : ∀ t, t < 8 → f t < 2 ^ 31) (hi : i + r ≤ 24) (hp : ∀ J, (∀ q, q ≠ 280 + 2 * s → J q = J0 q) → (∀ x, J (280 + 2 * s) x = if i ≤ x ∧ x < i + r then cutL l (nI (rowT f 8 (x - i))).toInt64 else J0 (280 + 2 * s) x) → post (nI r) J) : ∀ d j J, j + d = r → (∀ q, q ≠ 280 + 2 * s → J q = J0 q) → (∀ x, J (280 + 2 * s) x = if i ≤ x ∧ x < i + j then cutL l (nI (rowT f 8 (x - i))).toInt64 else J0 (280 + 2 * s) x) → wp_X10_film_L67 I Q 0 (nI v) (nI s) (nI i) (nI r) post (d + 1) J (nI j) := by
  obtain ⟨⟨a0, a1, a2, a3, a4, a5, a6, a7, a8, a9, a10⟩, ⟨q1, q2, q3, q4⟩, -, hrow, hM⟩ := id hQ
  intro d
  induction d with
  | zero =>
    intro j J hj w1 w2
    have : j = r := by omega
    subst this
    unfold wp_X10_film_L67
    exact br_t (nI_le (Nat.le_refl _) (by omega)) (hp J w1 w2)
  | succ d ih =>
    intro j J hj w1 w2
    unfold wp_X10_film_L67
    rw [a0, a10, q1.2.2.1, nI_clamp (n := v) (by omega), nI_clamp (n := s) (by omega), q1.2.2.2.2.1 v hv, (hrow s hs).1, nI_add, nI_1]
    refine br_f (nI_ge (by omega) (by omega)) ⟨vp_in_nI hs (by decide), vp_in_nI hv (by decide), sp_row (f := f) (q1.2.2.2.2.2 v hv) hf hb (by omega) (sp_put hl hI (by omega) ?_)⟩
    rw [(hrow s hs).2]
    refine ih (j + 1) _ (by omega) (fun q hq => by rw [stj_ne _ _ _ hq]; exact w1 q hq) (fun x => ?_)
    rw [stj_at]
    by_cases hx : x = i + j
    · subst hx
      rw [pk_uLs, if_pos (by omega), show i + j - i = j by omega]
    · rw [pk_uLn hx, w2 x]
      by_cases hc : i ≤ x ∧ x < i + j
      · rw [if_pos hc, if_pos (by omega)]
      · rw [if_neg hc, if_neg (by omega)]
theorem lp_mfilm {I : KI} {Q : KQ} {v s l i r k : Nat} {f : Nat → Nat} {post : Int32 → KJ → Prop} (J0 : KJ) (hM : MdQ Q) (hs : s < 4) (hv : v < 6) (hl : l < 4) (hG : Gb f k) (hk : k ≤ 8) (h1 : 1 ≤ k) (hI : I 288 1 = nI k) (hK : KnIs (I 288) v (kn f)) (hi : i + r ≤ 24) (hp : ∀ J, (∀ q, q ≠ 303 → J q = J0 q) → (∀ x, J 303 x = if 24 * s + i ≤ x ∧ x < 24 * s + i + r then cutL l (nI (rowT f 8 (x - (24 * s + i)))).toInt64 else J0 303 x) → post (nI r) J) : ∀ d j J, j + d = r → (∀ q, q ≠ 303 → J q = J0 q) → (∀ x, J 303 x = if 24 * s + i ≤ x ∧ x < 24 * s + i + j then cutL l (nI (rowT f 8 (x - (24 * s + i)))).toInt64 else J0 303 x) → wp_X11_film_L59 I Q 287 (nI v) (nI s) (nI l) (nI i) (nI r) post (d + 1) J (nI j) := by
  intro d
  induction d with
  | zero =>
    intro j J hj w1 w2
    have : j = r := by omega
    subst this
    unfold wp_X11_film_L59
    exact br_t (nI_le (Nat.le_refl _) (by omega)) (hp J w1 w2)
  | succ d ih =>
    intro j J hj w1 w2
    unfold wp_X11_film_L59
    rw [hM.items, show (24 : Int32) * nI s = nI (24 * s) from pk_mul 24 s, nI_add, nI_add, nI_clamp (n := 24 * s + i + j) (by omega), nI_1]
    refine br_f (nI_ge (by omega) (by omega)) (ms_sumOf hM hG hk h1 hI hK hv (by omega) (ms_cut hl ⟨vp_in_nI (by omega) (by decide), ?_⟩))
    refine ih (j + 1) _ (by omega) (fun q hq => by rw [stj_ne _ _ _ hq]; exact w1 q hq) (fun x => ?_)
    rw [stj_at]
    by_cases hx : x = 24 * s + i + j
    · subst hx
      rw [pk_uLs, if_pos (by omega), show 24 * s + i + j - (24 * s + i) = j by omega]
    · rw [pk_uLn hx, w2 x]
      by_cases hc : 24 * s + i ≤ x ∧ x < 24 * s + i + j
      · rw [if_pos hc, if_pos (by omega)]
      · rw [if_neg hc, if_neg (by omega)]
set_option maxHeartbeats 1000000 in
theorem op_film {I : KI} {J : KJ} {Q : KQ} {b : Nat} {x1 x2 x3 x4 : Int32} {post : Int32 → KJ → Prop} (h : Rel I J Q b) (hp : ∀ r J4, (∀ p2 : Int32 → KJ → Prop, (∀ J5, Rel I J5 Q b → p2 r J5) → wp_X11_film I J4 Q 287 x1 x2 x3 x4 p2) → post r J4) : wp_X10_film I J Q 0 x1 x2 x3 x4 post := by
  obtain ⟨⟨hQ, hI2, hT, hSh⟩, π, hP, S, hs', m, hC⟩ := id h
  obtain ⟨c1, c2, c3, c4, ⟨a, ha, c5, c6⟩, hG, hb, hH⟩ := hC
  obtain ⟨⟨a0, a1, a2, a3, a4, a5, a6, a7, a8, a9, a10⟩, ⟨q1, q2, q3, q4⟩, -, hrow, hM⟩ := id hQ
  unfold wp_X10_film wp_X10_refusal
  rw [a0, a10]
  rcases nodeCase x1 (S.1 0) with ⟨v, hv, rfl⟩ | hnov
  · have hv6 : v < 6 := by have := hG.1; omega
    have hB := hG.2.2.2.2.2.2.2.1 v hv6
    have hrk := rk_le8 hB.1
    refine sp_node1 c1 hG hv ⟨fun c => absurd c (by decide), fun _ => ?_⟩
    rw [q1.2.2.1, nI_clamp (n := v) (by omega), q1.2.2.2.2.1 v hv6]
    rcases nodeCase x2 4 with ⟨s, hs, rfl⟩ | hno
    · obtain ⟨r1, r2⟩ := hrow s hs
      refine sp_sheet1 hs ⟨fun c => absurd c (by decide), fun _ => ?_⟩
      rw [nI_clamp (n := s) (by omega), r1]
      rcases nodeCase x3 4 with ⟨l, hl, rfl⟩ | hno2
      · refine sp_lane1 hl ⟨fun _ => ⟨vp_in_nI hs (by decide), ?_⟩, fun c => absurd c (by decide)⟩
        rcases hSh s hs with ⟨n1, n2⟩ | ⟨l', t, k1, k2, k3, k4, k5, k6, k7⟩
        · refine ⟨fun c => absurd n1 c, fun _ => ⟨fun c => absurd c (by decide), fun _ => ⟨fun c => absurd c (by decide), fun _ => hp _ _ (fun p2 h2 => ?_)⟩⟩⟩
          unfold wp_X11_film
          exact ms_node1 hM c3 hG hv ⟨fun c => absurd c (by decide), fun _ => ms_sheet1 hs ⟨fun c => absurd c (by decide), fun _ => ms_lane1 hl ⟨fun _ => ms_rank hM (c3.2.2.2 v hv6) hv6 hB.2 hrk (ms_whyN hM hs n2 ⟨fun c => absurd c (by decide), fun _ => h2 J h⟩), fun c => absurd c (by decide)⟩⟩⟩
        · unfold wp_X6_isNothing
          rw [k3]
          refine ⟨fun _ => ⟨fun _ => ⟨vp_in_nI hs (by decide), ?_⟩, fun c => absurd rfl c⟩, fun c => absurd c (nI_nm1 (by omega))⟩
          by_cases hll : l' = l
          · subst hll
            refine ⟨fun c => absurd rfl c, fun _ => ⟨fun _ => ⟨vp_in_nI hv6 (by decide), ?_⟩, fun c => absurd rfl c⟩⟩
            refine sp_rank (f := S.2.2.1 v) (by rw [q1.2.2.2.2.2 v hv6]; exact c1.sp hv6) (fun t ht => hG.f31 hv6 ht) ⟨vp_in_nI hs (by decide), ?_⟩
            refine sp_covers k2 k4 (fun i n e1 e2 hin => ?_) (fun hno3 => ⟨fun c => absurd rfl c, fun _ => hp _ _ (fun p2 h2 => ?_)⟩)
            · have hn1 : rk (S.2.2.1 v) = n := (nI_eq (by omega) (by omega)).mp e2
              subst hn1
              subst e1
              refine ⟨fun _ => ⟨rk (S.2.2.1 v) + 1, ?_⟩, fun c => absurd c (by decide)⟩
              refine lp_film (f := S.2.2.1 v) J hQ hs hv6 hl k3 (c1.sp hv6) (fun t ht => hG.f31 hv6 ht) (by omega) (fun J1 w1 w2 => hp _ _ (fun p2 h2 => ?_)) (rk (S.2.2.1 v)) 0 J (by omega) (fun _ _ => rfl) (fun x => by rw [if_neg (by omega)])
              unfold wp_X11_film
              refine ms_node1 hM c3 hG hv ⟨fun c => absurd c (by decide), fun _ => ms_sheet1 hs ⟨fun c => absurd c (by decide), fun _ => ms_lane1 hl ⟨fun _ => ms_rank hM (c3.2.2.2 v hv6) hv6 hB.2 hrk (ms_why hM hs k2 k6 k5 (by omega) (fun i' e' _ => ⟨fun _ => ⟨rk (S.2.2.1 v) + 1, ?_⟩, fun c => absurd rfl c⟩) (fun hno3 => absurd rfl (hno3 i hin))), fun c => absurd c (by decide)⟩⟩⟩
              refine lp_mfilm (f := S.2.2.1 v) J1 hM hs hv6 hl hB.1 hG.2.1.2 hG.2.1.1 c3.k (c3.2.2.2 v hv6) (by omega) (fun J2 z1 z2 => h2 _ ?_) (rk (S.2.2.1 v)) 0 J1 (by omega) (fun _ _ => rfl) (fun x => by rw [if_neg (by omega)])
              refine h.J (hSh.sub hs (fun q d1 d2 => by rw [z1 q d2, w1 q d1]) (fun u hu => by rw [z2 u, if_neg (by omega), w1 303 (by omega)]) (fun j hj => ?_))
              rw [z1 _ (by omega), w2 j, z2, w1 303 (by omega)]
              by_cases hc : i ≤ j ∧ j < i + rk (S.2.2.1 v)
              · rw [if_pos hc, if_pos (by omega), show 24 * s + j - (24 * s + i) = j - i by omega]
              · rw [if_neg hc, if_neg (by omega)]
                exact k7 j hj
            · unfold wp_X11_film
              exact ms_node1 hM c3 hG hv ⟨fun c => absurd c (by decide), fun _ => ms_sheet1 hs ⟨fun c => absurd c (by decide), fun _ => ms_lane1 hl ⟨fun _ => ms_rank hM (c3.2.2.2 v hv6) hv6 hB.2 hrk (ms_why hM hs k2 k6 k5 (by omega) (fun i' e' hle => absurd rfl (hno3 i' _ hle e')) (fun _ => ⟨fun c => absurd c (by decide), fun _ => h2 J h⟩)), fun c => absurd c (by decide)⟩⟩⟩
          · have hne : ¬ nI l' = nI l := fun e => hll ((nI_eq (by omega) (by omega)).mp e)
            refine ⟨fun _ => ⟨fun c => absurd c (by decide), fun _ => hp _ _ (fun p2 h2 => ?_)⟩, fun c => absurd c hne⟩
            unfold wp_X11_film
            exact ms_node1 hM c3 hG hv ⟨fun c => absurd c (by decide), fun _ => ms_sheet1 hs ⟨fun c => absurd c (by decide), fun _ => ms_lane1 hl ⟨fun _ => ms_rank hM (c3.2.2.2 v hv6) hv6 hB.2 hrk (ms_whyC hM hs k2 k6 k5 hne ⟨fun c => absurd c (by decide), fun _ => h2 J h⟩), fun c => absurd c (by decide)⟩⟩⟩
      · refine sp_lane0 hno2 ⟨fun c => absurd rfl c, fun _ => ⟨fun c => absurd c (by decide), fun _ => hp _ _ (fun p2 h2 => ?_)⟩⟩
        unfold wp_X11_film
        exact ms_node1 hM c3 hG hv ⟨fun c => absurd c (by decide), fun _ => ms_sheet1 hs ⟨fun c => absurd c (by decide), fun _ => ms_lane0 hno2 ⟨fun c => absurd rfl c, fun _ => h2 J h⟩⟩⟩
    · refine sp_sheet0 hno ⟨fun _ => ⟨fun c => absurd c (by decide), fun _ => hp _ _ (fun p2 h2 => ?_)⟩, fun c => absurd rfl c⟩
      unfold wp_X11_film
      exact ms_node1 hM c3 hG hv ⟨fun c => absurd c (by decide), fun _ => ms_sheet0 hno ⟨fun _ => h2 J h, fun c => absurd rfl c⟩⟩
  · refine sp_node0 c1 hG hnov ⟨fun _ => hp _ _ (fun p2 h2 => ?_), fun c => absurd rfl c⟩
    unfold wp_X11_film
    exact ms_node0 hM c3 hG hnov ⟨fun _ => h2 J h, fun c => absurd rfl c⟩
/-! could -/
def itOk (k : Nat) (x : Int64) : Bool := decide (x = 9) || (decide (¬ x < 0) && decide (x < lN k))
def alB (p : Nat → Bool) : Nat → Bool
  | 0 => true
  | i + 1 => alB p i && p i
theorem alB_t (p : Nat → Bool) : ∀ n, alB p n = true ↔ ∀ i, i < n → p i = true := by
  intro n
  induction n with
  | zero => exact ⟨fun _ i hi => absurd hi (Nat.not_lt_zero i), fun _ => rfl⟩
  | succ n ih =>
    simp only [alB, Bool.and_eq_true, ih]
    constructor
    · rintro ⟨h1, h2⟩
      exact lt_s h1 h2
    · intro h1
      exact ⟨fun i hi => h1 i (by omega), h1 n (by omega)⟩
theorem alB_f {p : Nat → Bool} {n i : Nat} (hi : i < n) (h : p i = false) : alB p n = false := by
  cases hb : alB p n
  · rfl
  · rw [(alB_t p n).mp hb i hi] at h
    cases h
def cN (x : Int64) : Nat := x.toInt.toNat
theorem itOk_c {k : Nat} {x : Int64} (hk : k ≤ 8) (h : itOk k x = true) : x = lN (cN x) ∧ (cN x < 8 ∨ cN x = 9) := by
  unfold itOk at h
  rw [Bool.or_eq_true, Bool.and_eq_true, decide_eq_true_iff, decide_eq_true_iff, decide_eq_true_iff] at h
  rcases h with h | ⟨h1, h2⟩
  · subst h
    exact ⟨by decide, Or.inr (by decide)⟩
  · obtain ⟨j, hj, rfl⟩ := pk_lOf h1
    have := (pk_lLT hj (by omega)).mp h2
    have e : cN (lN j) = j := by
      unfold cN
      rw [pk_lT hj]
      exact Int.toNat_natCast j
    rw [e]
    exact ⟨rfl, Or.inl (by omega)⟩
def pwN (c : Nat) : Nat := if c = 9 then 0 else 2 ^ c
theorem pwN_injA : ∀ a, a < 10 → ∀ b, b < 10 → (a < 8 ∨ a = 9) → (b < 8 ∨ b = 9) → (pwN a = pwN b ↔ a = b) := by decide +kernel
theorem pwN_inj {a b : Nat} (ha : a < 8 ∨ a = 9) (hb : b < 8 ∨ b = 9) : pwN a = pwN b ↔ a = b := pwN_injA a (by omega) b (by omega) ha hb
theorem pwN_lt {a : Nat} (ha : a < 8 ∨ a = 9) : pwN a < 2 ^ 31 := by
  unfold pwN
  split
  · decide
  · exact Nat.pow_lt_pow_right (by omega) (by omega)
theorem lp_check {I : KI} {J : KJ} {Q : KQ} {s i n k : Nat} {post : Int32 → KI → Prop} {kk : Prop} (a0 : rq Q 0 0 = 1) (r2 : rq Q (279 + 2 * s) 0 = 280 + 2 * s) (hn : I 1 3 = nI n) (hk : I 1 4 = nI k) (hn6 : n ≤ 6) (hk8 : k ≤ 8) (hi : i + n ≤ 24) (hp1 : (∀ v, v < n → itOk k (J (280 + 2 * s) (i + v)) = true) → kk) (hp0 : (∃ v, v < n ∧ itOk k (J (280 + 2 * s) (i + v)) = false) → post (-2) I) : ∀ d v, v + d = n → (∀ u, u < v → itOk k (J (280 + 2 * s) (i + u)) = true) → wp_X10_could_L46 I J Q 0 (nI i) (279 + 2 * s) post kk (d + 1) (nI v) := by
  intro d
  induction d with
  | zero =>
    intro v hv hu
    have : v = n := by omega
    subst this
    unfold wp_X10_could_L46
    rw [a0, hn]
    exact br_t (nI_le (Nat.le_refl _) (by omega)) (hp1 hu)
  | succ d ih =>
    intro v hv hu
    have hgo : itOk k (J (280 + 2 * s) (i + v)) = true → wp_X10_could_L46 I J Q 0 (nI i) (279 + 2 * s) post kk (d + 1) (nI (v + 1)) := fun z => ih (v + 1) (by omega) (lt_s hu z)
    have hno : itOk k (J (280 + 2 * s) (i + v)) = false → post (-2) I := fun z => hp0 ⟨v, by omega, z⟩
    unfold wp_X10_could_L46
    rw [a0, hn, hk, nI_add, nI_1, nI_clamp (n := i + v) (by omega), r2, nI_l (by omega)]
    simp only [lg_cmp_lt, lg_cmp_eq]
    refine br_f (nI_ge (by omega) (by omega)) ⟨vp_in_nI (by omega) (by decide), fun c => ⟨fun c2 => hgo ?_, fun c2 => hno ?_⟩, fun c => ⟨fun c2 => hgo ?_, fun c2 => ⟨fun c3 => hgo ?_, fun c3 => hno ?_⟩⟩⟩
    · unfold itOk; rw [decide_eq_true c2]; rfl
    · unfold itOk; rw [decide_eq_false c2, decide_eq_false (fun z => z c)]; rfl
    · unfold itOk; rw [decide_eq_true c, decide_eq_true c2]; simp
    · unfold itOk; rw [decide_eq_true c3]; rfl
    · unfold itOk; rw [decide_eq_false c3, decide_eq_false c2, Bool.and_false]; rfl
theorem lp_sentBy {I : KI} {J : KJ} {Q : KQ} {s i n : Nat} {L : Nat → List Nat} {c e : Nat → Nat} {post : Int32 → KI → Prop} (a0 : rq Q 0 0 = 1) (a5 : rq Q 0 5 = 260) (hR : RndQ Q 260) (r2 : rq Q (279 + 2 * s) 0 = 280 + 2 * s) (hn : I 1 3 = nI n) (hn6 : n ≤ 6) (hi : i + n ≤ 24) (hS : SentIs I 260 L n) (hL : ∀ v, v < n → (L v).getD 0 0 = pwN (e v) ∧ (e v < 8 ∨ e v = 9)) (hc : ∀ v, v < n → J (280 + 2 * s) (i + v) = lN (c v) ∧ (c v < 8 ∨ c v = 9)) (hp : post (bI (alB (fun v => decide (e v = c v)) n)) I) : ∀ d v, v + d = n → alB (fun v => decide (e v = c v)) v = true → wp_X10_sentBy_L15 I J Q 0 (279 + 2 * s) (nI i) post (d + 1) (nI v) := by
  intro d
  induction d with
  | zero =>
    intro v hv hu
    have : v = n := by omega
    subst this
    unfold wp_X10_sentBy_L15
    rw [a0, hn]
    rw [hu] at hp
    exact br_t (nI_le (Nat.le_refl _) (by omega)) hp
  | succ d ih =>
    intro v hv hu
    have hvn : v < n := by omega
    obtain ⟨l1, l2⟩ := hL v hvn
    obtain ⟨k1, k2⟩ := hc v hvn
    have hgo : e v = c v → wp_X10_sentBy_L15 I J Q 0 (279 + 2 * s) (nI i) post (d + 1) (nI (v + 1)) := fun z => ih (v + 1) (by omega) (by simp only [alB]; rw [hu, decide_eq_true z]; rfl)
    have hno : ¬ e v = c v → post 0 I := fun z => by
      rw [alB_f (p := fun v => decide (e v = c v)) hvn (decide_eq_false z)] at hp
      exact hp
    have hpw := pwN_inj l2 k2
    have p1 := pwN_lt l2
    have p2 := pwN_lt k2
    unfold wp_X10_sentBy_L15
    rw [a0, a5, hn, nI_add, nI_1, nI_clamp (n := i + v) (by omega), r2, k1, lN_i]
    simp only [lg_cmp_eq]
    refine br_f (nI_ge (by omega) (by omega)) ⟨vp_in_nI (by omega) (by decide), fun c9 => ?_, fun c9 => ?_⟩
    · have h9 : ¬ c v = 9 := fun z => c9 (by rw [z]; rfl)
      refine sp_only hR hn6 hS hvn ?_
      rw [l1, ni_shl1 _ (by omega)]
      have ec : pwN (c v) = 2 ^ c v := by unfold pwN; rw [if_neg h9]
      rw [← ec, nI_eq p2 p1]
      exact ⟨fun z => hgo (hpw.mp z.symm), fun z => hno (fun y => z (hpw.mpr y).symm)⟩
    · have h9 : c v = 9 := (lN_eq (by omega) (by decide)).mp (show lN (c v) = lN 9 from c9)
      refine sp_only hR hn6 hS hvn ?_
      rw [l1]
      have ec : pwN (c v) = 0 := by rw [h9]; rfl
      have hz : ((0 : Int32) = nI (pwN (e v))) ↔ pwN (c v) = pwN (e v) := by rw [ec]; exact nI_eq (a := 0) (by decide) p1
      rw [hz]
      exact ⟨fun z => hgo (hpw.mp z.symm), fun z => hno (fun y => z (hpw.mpr y).symm)⟩
def cset (p q : Nat → Bool) : Nat → Nat
  | 0 => 3
  | v + 1 => cset p q v &&& ((if p v then 1 else 0) ||| (if q v then 2 else 0))
theorem cset_b : ∀ a b c d : Bool, ((if a then 1 else 0) + (if b then 2 else 0) : Nat) &&& ((if c then 1 else 0) ||| (if d then 2 else 0)) = (if (a && c) then 1 else 0) + (if (b && d) then 2 else 0) := by decide
theorem cset_eq (p q : Nat → Bool) : ∀ n, cset p q n = (if alB p n then 1 else 0) + (if alB q n then 2 else 0) := by
  intro n
  induction n with
  | zero => rfl
  | succ n ih =>
    simp only [cset, alB]
    rw [ih]
    exact cset_b _ _ _ _
def lsN (S : Snap) (v : Nat) : Nat := if liT (andn (toldT (S.2.2.1 v) 8) (S.2.2.2 v)) 8 0 < 8 then liT (andn (toldT (S.2.2.1 v) 8) (S.2.2.2 v)) 8 0 else 9
def tnN (S : Snap) (v : Nat) : Nat := if S.2.2.1 v (S.1 4 % S.1 1) = 2 ^ (S.1 4 % S.1 1) then S.1 4 % S.1 1 else 9
theorem lsN_r (S : Snap) (v : Nat) : lsN S v < 8 ∨ lsN S v = 9 := by
  unfold lsN
  split
  · left; assumption
  · right; rfl
theorem tnN_r {S : Snap} (hG : Gs S) (v : Nat) : tnN S v < 8 ∨ tnN S v = 9 := by
  have h1 := hG.2.1
  have : S.1 4 % S.1 1 < S.1 1 := Nat.mod_lt _ (by omega)
  unfold tnN
  split
  · left; omega
  · right; rfl
theorem snd0 (S : Snap) (v : Nat) : (sndL S 0 v).getD 0 0 = pwN (lsN S v) := by
  have e : (sndL S 0 v).getD 0 0 = lowb (andn (toldT (S.2.2.1 v) 8) (S.2.2.2 v)) := by
    unfold sndL
    have e1 : oneS S 0 v (drwT S 0 v) = lowb (andn (toldT (S.2.2.1 v) 8) (S.2.2.2 v)) := by simp [oneS]
    rw [e1, if_neg (by decide)]
    by_cases h : lowb (andn (toldT (S.2.2.1 v) 8) (S.2.2.2 v)) = 0
    · rw [if_pos h, h]; rfl
    · rw [if_neg h]; rfl
  rw [e]
  unfold lowb lsN pwN
  rw [liT_low _ 8 0 (by decide)]
  by_cases h : liT (andn (toldT (S.2.2.1 v) 8) (S.2.2.2 v)) 8 0 < 8
  · rw [if_pos h, if_pos h, if_neg (by omega)]
  · rw [if_neg h, if_neg h, if_pos rfl]
theorem snd1 {S : Snap} (hG : Gs S) {v : Nat} (hv : v < 6) : (sndL S 1 v).getD 0 0 = pwN (tnN S v) := by
  have h1 := hG.2.1
  have hB := (hG.2.2.2.2.2.2.2.1 v hv).1
  have hlt : S.1 4 % S.1 1 < S.1 1 := Nat.mod_lt _ (by omega)
  have e : (sndL S 1 v).getD 0 0 = toldT (S.2.2.1 v) 8 &&& 2 ^ (S.1 4 % S.1 1) := by
    unfold sndL
    have e1 : oneS S 1 v (drwT S 1 v) = toldT (S.2.2.1 v) 8 &&& 2 ^ (S.1 4 % S.1 1) := by simp [oneS]
    rw [e1, if_neg (by decide)]
    by_cases h : toldT (S.2.2.1 v) 8 &&& 2 ^ (S.1 4 % S.1 1) = 0
    · rw [if_pos h, h]; rfl
    · rw [if_neg h]; rfl
  rw [e, ← one_of hB hlt h1.2]
  unfold tnN pwN
  by_cases h : S.2.2.1 v (S.1 4 % S.1 1) = 2 ^ (S.1 4 % S.1 1)
  · rw [if_pos h, if_pos h, if_neg (by omega)]
  · rw [if_neg h, if_neg h, if_pos rfl]
theorem ms_least9 {I : KI} {Q : KQ} {v : Nat} {S : Snap} {kk : Int32 → Prop} (hM : MdQ Q) (hN : RowIs (I 288) S) (hG : Gs S) (hv : v < 6) (hp : kk (nI (lsN S v))) : wp_X11_leastOf I Q 287 (nI v) (fun r => (¬ r = (-4 : Int32) → wp_X11_leastOf I Q 287 (nI v) (fun r2 => kk r2)) ∧ (r = (-4 : Int32) → kk 9)) := by
  refine ms_leastOf hM hN hG hv ?_
  unfold lsN at hp
  unfold lowM
  by_cases h : liT (andn (toldT (S.2.2.1 v) 8) (S.2.2.2 v)) 8 0 < 8
  · rw [if_pos h] at hp ⊢
    refine ⟨fun _ => ms_leastOf hM hN hG hv ?_, fun c => ?_⟩
    · unfold lowM
      rw [if_pos h]
      exact hp
    · have := nI_pos (n := liT (andn (toldT (S.2.2.1 v) 8) (S.2.2.2 v)) 8 0) (by omega)
      rw [c] at this
      exact absurd (by decide) this
  · rw [if_neg h] at hp ⊢
    exact ⟨fun c => absurd rfl c, fun _ => hp⟩
theorem ms_turn9 {I : KI} {Q : KQ} {v : Nat} {S : Snap} {kk : Int32 → Prop} (hM : MdQ Q) (hN : RowIs (I 288) S) (hG : Gs S) (hr : S.1 4 < 2 ^ 31) (hv : v < 6) (hp : kk (nI (tnN S v))) : wp_X11_turnOf I Q 287 (nI v) (fun r => (¬ r = (-4 : Int32) → wp_X11_turnOf I Q 287 (nI v) (fun r2 => kk r2)) ∧ (r = (-4 : Int32) → kk 9)) := by
  have h8 := hG.2.1
  have hlt : S.1 4 % S.1 1 < S.1 1 := Nat.mod_lt _ (by omega)
  refine ms_turnOf hM hN hG hr hv ?_
  unfold tnN at hp
  by_cases h : S.2.2.1 v (S.1 4 % S.1 1) = 2 ^ (S.1 4 % S.1 1)
  · rw [if_pos h] at hp ⊢
    refine ⟨fun _ => ms_turnOf hM hN hG hr hv ?_, fun c => ?_⟩
    · rw [if_pos h]
      exact hp
    · have := nI_pos (n := S.1 4 % S.1 1) (by omega)
      rw [c] at this
      exact absurd (by decide) this
  · rw [if_neg h] at hp ⊢
    exact ⟨fun c => absurd rfl c, fun _ => hp⟩
theorem ms_itok {b : Bool} {x : Int64} {k : Nat} {k0 k1 : Prop} (hk : k ≤ 8) (h1 : 1 ≤ k) (hp0 : (b && itOk k x) = false → k0) (hp1 : (b && itOk k x) = true → k1) : (bI b = 0 → k0) ∧ (¬ bI b = 0 → ((lg_cmp x 9 = 0 → k1) ∧ (¬ lg_cmp x 9 = 0 → wp_X11_in x 0 ((nI k - 1).toInt64) (fun r => (r = 0 → k0) ∧ (¬ r = 0 → k1))))) := by
  refine ⟨fun c => ?_, fun c => ?_⟩
  · rw [(bI_eq b).mp c] at hp0
    exact hp0 rfl
  · rw [(bI_ne b).mp c, Bool.true_and] at hp0 hp1
    rw [lg_cmp_eq]
    unfold itOk at hp0 hp1
    refine ⟨fun c9 => ?_, fun c9 => ?_⟩
    · rw [decide_eq_true c9] at hp1
      exact hp1 rfl
    · rw [decide_eq_false c9, Bool.false_or] at hp0 hp1
      unfold wp_X11_in
      rw [lg_cmp_lt, lg_cmp_gt, show nI k - (1 : Int32) = nI (k - 1) from pk_sub (a := k) (b := 1) h1, nI_l (by omega)]
      refine ⟨fun c0 => ⟨fun _ => ?_, fun z => absurd rfl z⟩, fun c0 => ⟨fun c1 => ⟨fun _ => ?_, fun z => absurd rfl z⟩, fun c1 => ⟨fun z => absurd z (by decide), fun _ => ?_⟩⟩⟩
      · rw [decide_eq_false (fun z => z c0)] at hp0
        exact hp0 rfl
      · obtain ⟨j, hj, rfl⟩ := pk_lOf c0
        have h2 := (pk_lLT (by omega) hj).mp c1
        rw [decide_eq_true c0, decide_eq_false (fun z => by have := (pk_lLT hj (by omega)).mp z; omega)] at hp0
        exact hp0 rfl
      · obtain ⟨j, hj, rfl⟩ := pk_lOf c0
        have h2 : ¬ k - 1 < j := fun z => c1 ((pk_lLT (by omega) hj).mpr z)
        rw [decide_eq_true c0, decide_eq_true ((pk_lLT hj (by omega)).mpr (by omega))] at hp1
        exact hp1 rfl
theorem ms_same {x : Nat} {k0 kw : Prop} {y : Int64} (hx : x < 8 ∨ x = 9) (hp0 : ¬ lN x = y → k0) (hp1 : lN x = y → kw) : (¬ (lg_cmp ((nI x).toInt64) y) = 0 → k0) ∧ (lg_cmp ((nI x).toInt64) y = 0 → kw) := by
  rw [lg_cmp_eq, nI_l (by omega)]
  exact ⟨hp0, hp1⟩
theorem lp_mcould {I : KI} {J : KJ} {Q : KQ} {s i : Nat} {S : Snap} {kk : Int32 → Int32 → Prop} (hM : MdQ Q) (hN : RowIs (I 288) S) (hG : Gs S) (hr : S.1 4 < 2 ^ 31) (hs : s < 4) (hi : i + S.1 0 ≤ 24) (hp : ∀ x, (alB (fun v => itOk (S.1 1) (J 303 (24 * s + i + v))) (S.1 0) = true → x = nI (cset (fun v => decide (lsN S v = cN (J 303 (24 * s + i + v)))) (fun v => decide (tnN S v = cN (J 303 (24 * s + i + v)))) (S.1 0))) → kk x (bI (alB (fun v => itOk (S.1 1) (J 303 (24 * s + i + v))) (S.1 0)))) : ∀ d v x, v + d = S.1 0 → (alB (fun v => itOk (S.1 1) (J 303 (24 * s + i + v))) v = true → x = nI (cset (fun v => decide (lsN S v = cN (J 303 (24 * s + i + v)))) (fun v => decide (tnN S v = cN (J 303 (24 * s + i + v)))) v)) → wp_X11_could_L53 I J Q 287 (nI s) (nI i) kk (d + 1) x (bI (alB (fun v => itOk (S.1 1) (J 303 (24 * s + i + v))) v)) (nI v) := by
  have hn6 := hG.1.2
  intro d
  induction d with
  | zero =>
    intro v x hv hx
    have e : v = S.1 0 := by omega
    unfold wp_X11_could_L53
    rw [hM.now, tc0, hN.n, e]
    rw [e] at hx
    exact br_t (nI_le (Nat.le_refl _) (by omega)) (hp x hx)
  | succ d ih =>
    intro v x hv hx
    have hleaf0 : (alB (fun v => itOk (S.1 1) (J 303 (24 * s + i + v))) v && itOk (S.1 1) (J 303 (24 * s + i + v))) = false → ∀ y, wp_X11_could_L53 I J Q 287 (nI s) (nI i) kk (d + 1) y 0 (nI (v + 1)) := by
      intro hw y
      have e : alB (fun v => itOk (S.1 1) (J 303 (24 * s + i + v))) (v + 1) = false := hw
      have := ih (v + 1) y (by omega) (fun z => absurd z (by rw [e]; decide))
      rw [e] at this
      exact this
    have hleaf1 : (alB (fun v => itOk (S.1 1) (J 303 (24 * s + i + v))) v && itOk (S.1 1) (J 303 (24 * s + i + v))) = true → ∀ (a b : Bool) (y : Int32), y = nI ((if a then 1 else 0) ||| (if b then 2 else 0)) → (lN (lsN S v) = J 303 (24 * s + i + v) ↔ a = true) → (lN (tnN S v) = J 303 (24 * s + i + v) ↔ b = true) → wp_X11_could_L53 I J Q 287 (nI s) (nI i) kk (d + 1) (x &&& y) 1 (nI (v + 1)) := by
      intro hw a b y hy ha hb
      have e : alB (fun v => itOk (S.1 1) (J 303 (24 * s + i + v))) (v + 1) = true := hw
      rw [Bool.and_eq_true] at hw
      obtain ⟨k1, k2⟩ := itOk_c hG.2.1.2 hw.2
      have l1 := lsN_r S v
      have l2 := tnN_r hG v
      have ea : a = decide (lsN S v = cN (J 303 (24 * s + i + v))) := by
        rw [k1, lN_eq (by omega) (by omega)] at ha
        cases a with
        | true => exact (decide_eq_true (ha.mpr rfl)).symm
        | false => exact (decide_eq_false (fun z => absurd (ha.mp z) (by decide))).symm
      have eb : b = decide (tnN S v = cN (J 303 (24 * s + i + v))) := by
        rw [k1, lN_eq (by omega) (by omega)] at hb
        cases b with
        | true => exact (decide_eq_true (hb.mpr rfl)).symm
        | false => exact (decide_eq_false (fun z => absurd (hb.mp z) (by decide))).symm
      subst ea
      subst eb
      have := ih (v + 1) (x &&& y) (by omega) (fun _ => by
        rw [hx hw.1, hy, ni_and]
        rfl)
      rw [e] at this
      exact this
    unfold wp_X11_could_L53
    rw [hM.now, hM.items, tc0, tc1, hN.n, hN.k, show (24 : Int32) * nI s = nI (24 * s) from pk_mul 24 s, nI_add, nI_add, nI_clamp (n := 24 * s + i + v) (by omega), nI_1]
    refine br_f (nI_ge (by omega) (by omega)) ⟨vp_in_nI (by omega) (by decide), ?_⟩
    refine ms_itok hG.2.1.2 hG.2.1.1 (fun hw => ?_) (fun hw => ?_)
    · refine ms_least9 hM hN hG (by omega) ?_
      refine ms_turn9 hM hN hG hr (by omega) ?_
      exact ms_same (lsN_r S v) (fun _ => ms_same (tnN_r hG v) (fun _ => hleaf0 hw _) (fun _ => hleaf0 hw _)) (fun _ => ms_same (tnN_r hG v) (fun _ => hleaf0 hw _) (fun _ => hleaf0 hw _))
    · refine ms_least9 hM hN hG (by omega) ?_
      refine ms_turn9 hM hN hG hr (by omega) ?_
      exact ms_same (lsN_r S v) (fun g1 => ms_same (tnN_r hG v) (fun g2 => hleaf1 hw false false _ rfl ⟨fun z => absurd z g1, fun z => absurd z (by decide)⟩ ⟨fun z => absurd z g2, fun z => absurd z (by decide)⟩) (fun g2 => hleaf1 hw false true _ rfl ⟨fun z => absurd z g1, fun z => absurd z (by decide)⟩ ⟨fun _ => rfl, fun _ => g2⟩)) (fun g1 => ms_same (tnN_r hG v) (fun g2 => hleaf1 hw true false _ rfl ⟨fun _ => rfl, fun _ => g1⟩ ⟨fun z => absurd z g2, fun z => absurd z (by decide)⟩) (fun g2 => hleaf1 hw true true _ rfl ⟨fun _ => rfl, fun _ => g1⟩ ⟨fun _ => rfl, fun _ => g2⟩))
set_option maxHeartbeats 1000000 in
theorem op_could {I : KI} {J : KJ} {Q : KQ} {b : Nat} {x1 x2 x3 : Int32} {post : Int32 → KI → Prop} (h : Rel I J Q b) (hb31 : b < 2 ^ 30) (hp : ∀ r I4, (∀ p2 : Int32 → Prop, p2 r → wp_X11_could I4 J Q 287 x1 x2 x3 p2) → Rel I4 J Q b → post r I4) : wp_X10_could I J Q 0 x1 x2 x3 post := by
  obtain ⟨⟨hQ, hI2, hT, hSh⟩, π, hP, S, hs', m, hC⟩ := id h
  obtain ⟨c1, c2, c3, c4, ⟨a, ha, c5, c6⟩, hG, hb, hH⟩ := hC
  obtain ⟨⟨a0, a1, a2, a3, a4, a5, a6, a7, a8, a9, a10⟩, ⟨q1, q2, q3, q4⟩, -, hrow, hM⟩ := id hQ
  have hn6 := hG.1.2
  have e3 : I 1 3 = nI (S.1 0) := c1.1 0 (by omega)
  have e4 : I 1 4 = nI (S.1 1) := c1.1 1 (by omega)
  unfold wp_X10_could wp_X10_refusal
  rw [a10, a0, e3]
  rcases nodeCase x1 4 with ⟨s, hs, rfl⟩ | hno
  · obtain ⟨r1, r2⟩ := hrow s hs
    refine sp_sheet1 hs ⟨fun c => absurd c (by decide), fun _ => ?_⟩
    rw [nI_clamp (n := s) (by omega), r1]
    rcases nodeCase x2 4 with ⟨l, hl, rfl⟩ | hno2
    · refine sp_lane1 hl ⟨fun _ => ⟨vp_in_nI hs (by decide), ?_⟩, fun c => absurd c (by decide)⟩
      rcases hSh s hs with ⟨n1, n2⟩ | ⟨l', t, k1, k2, k3, k4, k5, k6, k7⟩
      · refine ⟨fun c => absurd n1 c, fun _ => ⟨fun c => absurd c (by decide), fun _ => ⟨fun c => absurd c (by decide), fun _ => hp _ _ (fun p2 h2 => ?_) h⟩⟩⟩
        unfold wp_X11_could
        exact ms_sheet1 hs ⟨fun c => absurd c (by decide), fun _ => ms_lane1 hl ⟨fun _ => ms_whyN hM hs n2 ⟨fun c => absurd c (by decide), fun _ => h2⟩, fun c => absurd c (by decide)⟩⟩
      · unfold wp_X6_isNothing
        rw [k3]
        refine ⟨fun _ => ⟨fun _ => ⟨vp_in_nI hs (by decide), ?_⟩, fun c => absurd rfl c⟩, fun c => absurd c (nI_nm1 (by omega))⟩
        by_cases hll : l' = l
        · subst hll
          refine ⟨fun c => absurd rfl c, fun _ => ⟨fun _ => ⟨vp_in_nI hs (by decide), ?_⟩, fun c => absurd rfl c⟩⟩
          refine sp_covers k2 k4 (fun i n e1 e2 hin => ?_) (fun hno3 => ⟨fun c => absurd rfl c, fun _ => hp _ _ (fun p2 h2 => ?_) h⟩)
          · have hn1 : S.1 0 = n := (nI_eq (by omega) (by omega)).mp e2
            subst hn1
            subst e1
            refine ⟨fun _ => ⟨S.1 0 + 1, ?_⟩, fun c => absurd c (by decide)⟩
            have eJ : ∀ v, v < S.1 0 → J 303 (24 * s + i + v) = J (280 + 2 * s) (i + v) := fun v hv => by rw [k7 (i + v) (by omega), Nat.add_assoc]
            have mod : ∀ (I4 : KI) (p2 : Int32 → Prop), Rel I4 J Q b → I4 288 = I 288 → I4 301 s = I 301 s → I4 302 s = I 302 s → (alB (fun v => itOk (S.1 1) (J 303 (24 * s + i + v))) (S.1 0) = false → p2 (-2)) → (alB (fun v => itOk (S.1 1) (J 303 (24 * s + i + v))) (S.1 0) = true → p2 (nI (cset (fun v => decide (lsN S v = cN (J 303 (24 * s + i + v)))) (fun v => decide (tnN S v = cN (J 303 (24 * s + i + v)))) (S.1 0)))) → wp_X11_could I4 J Q 287 (nI s) (nI l') (nI i) p2 := by
              intro I4 p2 hR4 e288 e301 e302 h2 h3
              have c3' : RowIs (I4 288) S := by rw [e288]; exact c3
              unfold wp_X11_could
              rw [hM.now, tc0, c3'.n]
              refine ms_sheet1 hs ⟨fun c => absurd c (by decide), fun _ => ms_lane1 hl ⟨fun _ => ms_why hM hs k2 (by rw [e302]; exact k6) (by rw [e301]; exact k5) (by omega) (fun i' _ _ => ⟨fun _ => ⟨S.1 0 + 1, ?_⟩, fun c => absurd rfl c⟩) (fun hno3 => absurd rfl (hno3 i hin)), fun c => absurd c (by decide)⟩⟩
              refine lp_mcould hM c3' hG (by omega) hs (by omega) (fun x hx => ?_) (S.1 0) 0 3 (by omega) (fun _ => rfl)
              cases hb : alB (fun v => itOk (S.1 1) (J 303 (24 * s + i + v))) (S.1 0) with
              | true =>
                rw [hx hb]
                exact ⟨fun z => absurd z (by decide), fun _ => h3 hb⟩
              | false => exact ⟨fun _ => h2 hb, fun z => absurd rfl z⟩
            refine lp_check (k := S.1 1) a0 r2 e3 e4 hn6 hG.2.1.2 (by omega) (fun hall => ?_) (fun ⟨v, hv, hbad⟩ => hp _ _ (fun p2 h2 => mod I p2 h rfl rfl rfl (fun _ => h2) (fun z => ?_)) h) (S.1 0) 0 (by omega) (fun u hu => absurd hu (Nat.not_lt_zero u))
            · have hc : ∀ v, v < S.1 0 → J (280 + 2 * s) (i + v) = lN (cN (J 303 (24 * s + i + v))) ∧ (cN (J 303 (24 * s + i + v)) < 8 ∨ cN (J 303 (24 * s + i + v)) = 9) := fun v hv => by
                rw [eJ v hv]
                exact itOk_c hG.2.1.2 (hall v hv)
              have hall2 : alB (fun v => itOk (S.1 1) (J 303 (24 * s + i + v))) (S.1 0) = true := (alB_t _ _).mpr (fun v hv => by rw [eJ v hv]; exact hall v hv)
              have frr : ∀ I4 : KI, (∀ q, q ≠ 260 → q ≠ 261 → q ≠ 262 → I4 q = I q) → Rel I4 J Q b := fun I4 hf => h.fr ⟨fun q hq => hf q (by omega) (by omega) (by omega), by rw [hf 274 (by decide) (by decide) (by decide)], fun j _ => by rw [hf 287 (by decide) (by decide) (by decide)]⟩
              have fin : ∀ I4 : KI, (∀ q, q ≠ 260 → q ≠ 261 → q ≠ 262 → I4 q = I q) → ∀ r, r = nI ((if alB (fun v => decide (lsN S v = cN (J 303 (24 * s + i + v)))) (S.1 0) then 1 else 0) + (if alB (fun v => decide (tnN S v = cN (J 303 (24 * s + i + v)))) (S.1 0) then 2 else 0)) → post r I4 := by
                intro I4 hf r hr
                refine hp _ _ (fun p2 h2 => mod I4 p2 (frr I4 hf) (hf 288 (by decide) (by decide) (by decide)) (by rw [hf 301 (by decide) (by decide) (by decide)]) (by rw [hf 302 (by decide) (by decide) (by decide)]) (fun z => absurd z (by rw [hall2]; decide)) (fun _ => ?_)) (frr I4 hf)
                rw [cset_eq, ← hr]
                exact h2
              unfold wp_X10_sentBy
              rw [a5, a0]
              refine sp_prepare (m := 0) q4 q1 c1 hG (by omega) (by decide) (by omega) (fun I1 w1 w2 w3 => ⟨S.1 0 + 1, ?_⟩)
              have n1 : NetIs I1 1 S := c1.fr (fun k _ _ => w1 k (by omega) (by omega) (by omega))
              refine lp_sentBy (L := sndL S 0) (c := fun v => cN (J 303 (24 * s + i + v))) (e := lsN S) a0 a5 q4 r2 (by rw [w1 1 (by decide) (by decide) (by decide)]; exact e3) hn6 (by omega) w3 (fun v hv => ⟨snd0 S v, lsN_r S v⟩) hc ?_ (S.1 0) 0 (by omega) rfl
              have second : ∀ kk : Int32 → KI → Prop, (∀ I4 : KI, (∀ q, q ≠ 260 → q ≠ 261 → q ≠ 262 → I4 q = I q) → kk (bI (alB (fun v => decide (tnN S v = cN (J 303 (24 * s + i + v)))) (S.1 0))) I4) → wp_X5_prepare I1 Q 260 1 (1 : Int32) (fun I3 => (∃ q15, wp_X10_sentBy_L15 I3 J Q 0 (279 + 2 * s) (nI i) kk q15 (0 : Int32))) := by
                intro kk hkk
                refine sp_prepare (m := 1) q4 q1 n1 hG (by omega) (by decide) (by omega) (fun I2 y1 y2 y3 => ⟨S.1 0 + 1, ?_⟩)
                refine lp_sentBy (L := sndL S 1) (c := fun v => cN (J 303 (24 * s + i + v))) (e := tnN S) a0 a5 q4 r2 (by rw [y1 1 (by decide) (by decide) (by decide), w1 1 (by decide) (by decide) (by decide)]; exact e3) hn6 (by omega) y3 (fun v hv => ⟨snd1 hG (by omega), tnN_r hG v⟩) hc (hkk I2 (fun q d1 d2 d3 => by rw [y1 q d1 d2 d3, w1 q d1 d2 d3])) (S.1 0) 0 (by omega) rfl
              cases hA : alB (fun v => decide (lsN S v = cN (J 303 (24 * s + i + v)))) (S.1 0) with
              | true =>
                rw [hA] at fin
                refine ⟨fun z => absurd z (by decide), fun _ => second _ (fun I4 hf => ?_)⟩
                cases hB : alB (fun v => decide (tnN S v = cN (J 303 (24 * s + i + v)))) (S.1 0) with
                | true =>
                  rw [hB] at fin
                  exact ⟨fun z => absurd z (by decide), fun _ => fin I4 hf _ rfl⟩
                | false =>
                  rw [hB] at fin
                  exact ⟨fun _ => fin I4 hf _ rfl, fun z => absurd rfl z⟩
              | false =>
                rw [hA] at fin
                refine ⟨fun _ => second _ (fun I4 hf => ?_), fun z => absurd rfl z⟩
                cases hB : alB (fun v => decide (tnN S v = cN (J 303 (24 * s + i + v)))) (S.1 0) with
                | true =>
                  rw [hB] at fin
                  exact ⟨fun z => absurd z (by decide), fun _ => fin I4 hf _ rfl⟩
                | false =>
                  rw [hB] at fin
                  exact ⟨fun _ => fin I4 hf _ rfl, fun z => absurd rfl z⟩
            · rw [← eJ v hv] at hbad
              rw [alB_f (p := fun v => itOk (S.1 1) (J 303 (24 * s + i + v))) hv hbad] at z
              cases z
          · unfold wp_X11_could
            rw [hM.now, tc0, c3.n]
            exact ms_sheet1 hs ⟨fun c => absurd c (by decide), fun _ => ms_lane1 hl ⟨fun _ => ms_why hM hs k2 k6 k5 (by omega) (fun i' e' hle => absurd rfl (hno3 i' _ hle e')) (fun _ => ⟨fun c => absurd c (by decide), fun _ => h2⟩), fun c => absurd c (by decide)⟩⟩
        · have hne : ¬ nI l' = nI l := fun e => hll ((nI_eq (by omega) (by omega)).mp e)
          refine ⟨fun _ => ⟨fun c => absurd c (by decide), fun _ => hp _ _ (fun p2 h2 => ?_) h⟩, fun c => absurd c hne⟩
          unfold wp_X11_could
          exact ms_sheet1 hs ⟨fun c => absurd c (by decide), fun _ => ms_lane1 hl ⟨fun _ => ms_whyC hM hs k2 k6 k5 hne ⟨fun c => absurd c (by decide), fun _ => h2⟩, fun c => absurd c (by decide)⟩⟩
    · refine sp_lane0 hno2 ⟨fun c => absurd rfl c, fun _ => ⟨fun c => absurd c (by decide), fun _ => hp _ _ (fun p2 h2 => ?_) h⟩⟩
      unfold wp_X11_could
      exact ms_sheet1 hs ⟨fun c => absurd c (by decide), fun _ => ms_lane0 hno2 ⟨fun c => absurd rfl c, fun _ => h2⟩⟩
  · refine sp_sheet0 hno ⟨fun _ => ⟨fun c => absurd c (by decide), fun _ => hp _ _ (fun p2 h2 => ?_) h⟩, fun c => absurd rfl c⟩
    unfold wp_X11_could
    exact ms_sheet0 hno ⟨fun _ => h2, fun c => absurd rfl c⟩
