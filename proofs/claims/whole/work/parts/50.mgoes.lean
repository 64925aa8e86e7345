/-! PURE, 13: a round of the reference -/
theorem one_of {f : Nat → Nat} {k t : Nat} (hG : Gb f k) (ht : t < k) (hk : k ≤ 8) : (if f t = 2 ^ t then 2 ^ t else 0) = toldT f 8 &&& 2 ^ t := by
  apply Nat.eq_of_testBit_eq
  intro j
  rw [Nat.testBit_and, toldT_bit, Nat.testBit_two_pow]
  by_cases h : f t = 2 ^ t
  · rw [if_pos h, Nat.testBit_two_pow]
    by_cases hj : t = j
    · subst hj
      rw [decide_eq_true (show t < 8 ∧ f t = 2 ^ t from ⟨by omega, h⟩), Bool.true_and]
    · rw [decide_eq_false hj, Bool.and_false]
  · rw [if_neg h, Nat.zero_testBit]
    by_cases hj : t = j
    · subst hj
      rw [decide_eq_false (fun q => h q.2), Bool.false_and]
    · rw [decide_eq_false hj, Bool.and_false]
theorem lp_sendRows {Q : KQ} {v k r : Nat} {f : Nat → Nat} {kk : KI → Prop} (I0 : KI) (hM : MdQ Q) (hG : Gb f k) (hk : k ≤ 8) (h1 : 1 ≤ k) (hI : I0 288 1 = nI k) (hK : KnIs (I0 288) v (kn f)) (hv : v < 6) (hr : r ≤ 8) (hp : ∀ I, (∀ q, q ≠ 294 → I q = I0 q) → (∀ j, (j < 8 * v ∨ 8 * v + 8 ≤ j) → I 294 j = I0 294 j) → (∀ j, j < r → I 294 (8 * v + j) = nI (rowT f 8 j)) → kk I) : ∀ d i I, i + d = r → (∀ q, q ≠ 294 → I q = I0 q) → (∀ j, (j < 8 * v ∨ 8 * v + 8 ≤ j) → I 294 j = I0 294 j) → (∀ j, j < i → I 294 (8 * v + j) = nI (rowT f 8 j)) → wp_X11_laysSends_L193 Q 287 (nI v) (nI r) kk (d + 1) I (nI i) := by
  intro d
  induction d with
  | zero =>
    intro i I hi q1 q2 q3
    have : i = r := by omega
    subst this
    unfold wp_X11_laysSends_L193
    exact br_t (nI_le (Nat.le_refl _) (by omega)) (hp I q1 q2 q3)
  | succ d ih =>
    intro i I hi q1 q2 q3
    unfold wp_X11_laysSends_L193
    rw [hM.send, show (8 : Int32) * nI v = nI (8 * v) from pk_mul 8 v, nI_add, nI_1, nI_clamp (n := 8 * v + i) (by omega)]
    refine br_f (nI_ge (by omega) (by omega)) (ms_sumOf hM hG hk h1 (by rw [q1 288 (by decide)]; exact hI) (by rw [q1 288 (by decide)]; exact hK) hv (by omega) ⟨vp_in_nI (by omega) (by decide), ?_⟩)
    refine ih (i + 1) _ (by omega) (fun q hq => by rw [sti_ne _ _ _ hq]; exact q1 q hq) (fun j hj => by rw [sti_at, pk_un (by omega)]; exact q2 j hj) (fun j hj => ?_)
    rw [sti_at]
    by_cases hji : j = i
    · subst hji; rw [pk_us]
    · rw [pk_un (by omega)]; exact q3 j (by omega)
theorem drw_same {S : Snap} {m : Nat} (hm : m ≠ 2) (v : Nat) : drwT S m (v + 1) = drwT S m v := by simp [drwT, oneD, hm]
theorem sti2 (I : KI) (k j : Nat) (a b : Int32) : sti (sti I k j a) k j b = sti I k j b := by
  funext q
  by_cases hq : q = k
  · subst hq
    rw [sti_at, sti_at, sti_at]
    funext i
    by_cases hi : i = j
    · subst hi; rw [pk_us, pk_us]
    · rw [pk_un hi, pk_un hi, pk_un hi]
  · rw [sti_ne _ _ _ hq, sti_ne _ _ _ hq, sti_ne _ _ _ hq]
theorem lp_lays {Q : KQ} {S : Snap} {m : Nat} {post : KI → Prop} (I0 : KI) (hM : MdQ Q) (hN : RowIs (I0 288) S) (hG : Gs S) (hm : S.1 2 = m) (hr : S.1 4 < 2 ^ 31) (hp : ∀ I', (∀ q, q ≠ 287 → q ≠ 293 → q ≠ 294 → I' q = I0 q) → (∀ j, j ≠ 12 → I' 287 j = I0 287 j) → I' 287 12 = nI (drwT S m (S.1 0)) → SentM I' (sndM S m) (S.1 0) → post I') : ∀ d v I, v + d = S.1 0 → (∀ q, q ≠ 287 → q ≠ 293 → q ≠ 294 → I q = I0 q) → (∀ j, j ≠ 12 → I 287 j = I0 287 j) → I 287 12 = nI (drwT S m v) → (∀ u, u < v → SM I u (sndM S m u)) → wp_X11_laysSends_L12 Q 287 post (d + 1) I (nI v) := by
  have hn := hG.1
  have hk := hG.2.1
  have hm3 : m ≤ 3 := by rw [← hm]; exact hG.2.2.1
  intro d
  induction d with
  | zero =>
    intro v I hv q1 q2 q3 q4
    have : v = S.1 0 := by omega
    subst this
    unfold wp_X11_laysSends_L12
    rw [hM.now, tc0, q1 288 (by decide) (by decide) (by decide), hN.n]
    refine br_t (nI_le (Nat.le_refl _) (by omega)) (hp I q1 q2 q3 (fun u hu => ⟨(q4 u hu).1, (sndM_lt hG m (by omega)).2, (q4 u hu).2⟩))
  | succ d ih =>
    intro v I hv q1 q2 q3 q4
    have hv6 : v < 6 := by omega
    have hB := hG.2.2.2.2.2.2.2.1 v hv6
    have hrk := rk_le8 hB.1
    have hR : RowIs (I 288) S := by rw [q1 288 (by decide) (by decide) (by decide)]; exact hN
    have keep : ∀ I', (∀ q, q ≠ 287 → q ≠ 293 → q ≠ 294 → I' q = I q) → (∀ j, j ≠ 12 → I' 287 j = I 287 j) → I' 287 12 = nI (drwT S m (v + 1)) → (∀ u, u ≠ v → I' 293 u = I 293 u) → (∀ j, (j < 8 * v ∨ 8 * v + 8 ≤ j) → I' 294 j = I 294 j) → SM I' v (sndM S m v) → wp_X11_laysSends_L12 Q 287 post (d + 1) I' (nI v + 1) := by
      intro I' w1 w2 w3 w4 w5 w6
      rw [nI_1]
      refine ih (v + 1) I' (by omega) (fun q a b c => by rw [w1 q a b c]; exact q1 q a b c) (fun j hj => by rw [w2 j hj]; exact q2 j hj) w3 (fun u hu => ?_)
      by_cases huv : u = v
      · subst huv; exact w6
      · obtain ⟨s1, s2⟩ := q4 u (by omega)
        have hlen := (sndM_lt hG m (show u < 6 by omega)).2
        exact ⟨by rw [w4 u huv]; exact s1, fun j hj => by rw [w5 _ (by omega)]; exact s2 j hj⟩
    have fin : ∀ y, sndM S m v = (if y = 0 then [] else [y]) → m ≠ 2 → wp_X11_laysSends_L12 Q 287 post (d + 1) (sti (sti (sti I 293 v 0) 293 v (nI (if y = 0 then 0 else 1))) 294 (8 * v) (nI y)) (nI v + 1) := by
      intro y hy hm2
      rw [sti2]
      refine keep _ (fun q a b c => by rw [sti_ne _ _ _ c, sti_ne _ _ _ b]) (fun j _ => by rw [sti_ne _ _ _ (by decide), sti_ne _ _ _ (by decide)]) (by rw [sti_ne _ _ _ (by decide), sti_ne _ _ _ (by decide), q3, drw_same hm2]) (fun u hu => by rw [sti_ne _ _ _ (by decide), sti_at, pk_un hu]) (fun j hj => by rw [sti_at, pk_un (by omega), sti_ne _ _ _ (by decide)]) ?_
      rw [hy]
      by_cases h0 : y = 0
      · rw [if_pos h0, if_pos h0]
        exact ⟨by rw [sti_ne _ _ _ (by decide), sti_at, pk_us]; rfl, fun j hj => absurd hj (Nat.not_lt_zero j)⟩
      · rw [if_neg h0, if_neg h0]
        refine ⟨by rw [sti_ne _ _ _ (by decide), sti_at, pk_us]; rfl, fun j hj => ?_⟩
        have : j = 0 := by simpa using hj
        subst this
        rw [sti_at, Nat.add_zero, pk_us]
        rfl
    have fin2 : ∀ y Ij, (∀ q, q ≠ 287 → q ≠ 293 → Ij q = I q) → (∀ j, j ≠ 12 → Ij 287 j = I 287 j) → Ij 287 12 = nI (drwT S m (v + 1)) → (∀ u, u ≠ v → Ij 293 u = I 293 u) → sndM S m v = (if y = 0 then [] else [y]) → wp_X11_laysSends_L12 Q 287 post (d + 1) (sti (sti Ij 294 (8 * v) (nI y)) 293 v (nI (if y = 0 then 0 else 1))) (nI v + 1) := by
      intro y Ij w1 w2 w3 w4 hy
      refine keep _ (fun q a b c => by rw [sti_ne _ _ _ b, sti_ne _ _ _ c]; exact w1 q a b) (fun j hj => by rw [sti_ne _ _ _ (by decide), sti_ne _ _ _ (by decide)]; exact w2 j hj) (by rw [sti_ne _ _ _ (by decide), sti_ne _ _ _ (by decide)]; exact w3) (fun u hu => by rw [sti_at, pk_un hu, sti_ne _ _ _ (by decide)]; exact w4 u hu) (fun j hj => by rw [sti_ne _ _ _ (by decide), sti_at, pk_un (by omega), w1 294 (by decide) (by decide)]) ?_
      rw [hy]
      by_cases h0 : y = 0
      · rw [if_pos h0, if_pos h0]
        exact ⟨by rw [sti_at, pk_us]; rfl, fun j hj => absurd hj (Nat.not_lt_zero j)⟩
      · rw [if_neg h0, if_neg h0]
        refine ⟨by rw [sti_at, pk_us]; rfl, fun j hj => ?_⟩
        have : j = 0 := by simpa using hj
        subst this
        rw [sti_ne _ _ _ (by decide), sti_at, Nat.add_zero, pk_us]
        rfl
    have hsd : m ≠ 3 → sndM S m v = (if oneS S m v (drwT S m v) = 0 then [] else [oneS S m v (drwT S m v)]) := by
      intro h3
      unfold sndM sndL
      rw [if_neg h3, if_neg h3]
    unfold wp_X11_laysSends_L12
    rw [hM.now, tc0, tc2, hM.sendMany, hM.send, nI_clamp (n := v) (by omega), show sti I 293 v 0 288 = I 288 from sti_ne _ _ _ (by decide), hR.n, hR.m, hm, show (8 : Int32) * nI v = nI (8 * v) from pk_mul 8 v, nI_clamp (n := 8 * v) (by omega)]
    refine br_f (nI_ge (by omega) (by omega)) (ms_rank hM (hR.2.2.2 v hv6) hv6 hB.2 hrk ?_)
    rcases (show m = 0 ∨ m = 1 ∨ m = 2 ∨ m = 3 by omega) with rfl | rfl | rfl | rfl
    · refine ⟨fun c => absurd rfl c, fun _ => ms_leastOf hM hR hG hv6 ⟨vp_in_nI hv6 (by decide), fun c => absurd c (by decide), fun _ => ?_⟩⟩
      have hs := hsd (by decide)
      rw [show oneS S 0 v (drwT S 0 v) = lowb (andn (toldT (S.2.2.1 v) 8) (S.2.2.2 v)) from rfl, show lowb (andn (toldT (S.2.2.1 v) 8) (S.2.2.2 v)) = _ from liT_low _ 8 0 (Nat.le_refl 8)] at hs
      unfold lowM
      by_cases hl : liT (andn (toldT (S.2.2.1 v) 8) (S.2.2.2 v)) 8 0 < 8
      · rw [if_pos hl]
        rw [if_pos hl] at hs
        obtain ⟨t, ht⟩ : ∃ t, t = liT (andn (toldT (S.2.2.1 v) 8) (S.2.2.2 v)) 8 0 := ⟨_, rfl⟩
        rw [← ht] at hs hl ⊢
        have hne : ¬ nI t = -4 := by
          have : ∀ t, t < 8 → ¬ nI t = -4 := by decide
          exact this t hl
        refine ⟨fun _ => ⟨vp_in_nI hv6 (by decide), fun _ => ⟨vp_in_nI (by omega) (by decide), ?_⟩, fun c => absurd c hne⟩, fun c => absurd c hne⟩
        have h := fin (2 ^ t) hs (by decide)
        rw [if_neg (Nat.pos_iff_ne_zero.mp (Nat.two_pow_pos t))] at h
        rw [ni_shl1 t (by omega)]
        exact h
      · rw [if_neg hl]
        rw [if_neg hl] at hs
        refine ⟨fun c => absurd rfl c, fun _ => ⟨vp_in_nI hv6 (by decide), fun c => absurd rfl c, fun _ => ⟨vp_in_nI (by omega) (by decide), ?_⟩⟩⟩
        have h := fin 0 hs (by decide)
        rw [if_pos rfl] at h
        exact h
    · refine ⟨fun _ => ⟨fun c => absurd rfl c, fun _ => ms_turnOf hM hR hG hr hv6 ⟨vp_in_nI hv6 (by decide), fun c => absurd c (by decide), fun _ => ?_⟩⟩, fun c => absurd c (by decide)⟩
      have hs := hsd (by decide)
      have hlt : S.1 4 % S.1 1 < S.1 1 := Nat.mod_lt _ (by omega)
      rw [show oneS S 1 v (drwT S 1 v) = toldT (S.2.2.1 v) 8 &&& 2 ^ (S.1 4 % S.1 1) from rfl, ← one_of hB.1 hlt hk.2] at hs
      obtain ⟨t, ht⟩ : ∃ t, t = S.1 4 % S.1 1 := ⟨_, rfl⟩
      rw [← ht] at hs hlt ⊢
      by_cases hl : S.2.2.1 v t = 2 ^ t
      · rw [if_pos hl]
        rw [if_pos hl] at hs
        have hne : ¬ nI t = -4 := by
          have : ∀ t, t < 8 → ¬ nI t = -4 := by decide
          exact this t (by omega)
        refine ⟨fun _ => ⟨vp_in_nI hv6 (by decide), fun _ => ⟨vp_in_nI (by omega) (by decide), ?_⟩, fun c => absurd c hne⟩, fun c => absurd c hne⟩
        have h := fin (2 ^ t) hs (by decide)
        rw [if_neg (Nat.pos_iff_ne_zero.mp (Nat.two_pow_pos t))] at h
        rw [ni_shl1 t (by omega)]
        exact h
      · rw [if_neg hl]
        rw [if_neg hl] at hs
        refine ⟨fun c => absurd rfl c, fun _ => ⟨vp_in_nI hv6 (by decide), fun c => absurd rfl c, fun _ => ⟨vp_in_nI (by omega) (by decide), ?_⟩⟩⟩
        have h := fin 0 hs (by decide)
        rw [if_pos rfl] at h
        exact h
    · refine ⟨fun _ => ⟨fun _ => ⟨vp_in_nI hv6 (by decide), fun _ => ⟨fun c => absurd rfl c, fun _ => ?_⟩, fun c => absurd (show (1 : Int32) < nI 2 by decide) c⟩, fun c => absurd c (by decide)⟩, fun c => absurd c (by decide)⟩
      have hs := hsd (by decide)
      by_cases h0 : rk (S.2.2.1 v) = 0
      · have e1 : oneS S 2 v (drwT S 2 v) = 0 := by simp [oneS, h0]
        have e2 : drwT S 2 (v + 1) = drwT S 2 v := by simp [drwT, oneD, h0]
        rw [e1] at hs
        rw [h0]
        refine ⟨fun _ => ⟨vp_in_nI (by omega) (by decide), vp_in_nI (by omega) (by decide), fun c => ?_, fun _ => ⟨vp_in_nI hv6 (by decide), ?_⟩⟩, fun c => absurd (show nI 0 ≤ 0 by decide) c⟩
        · rw [sti_at, pk_us] at c
          exact absurd rfl c
        · have h := fin2 0 (sti I 293 v 0) (fun q _ b => sti_ne _ _ _ b) (fun j _ => by rw [sti_ne _ _ _ (by decide)]) (by rw [sti_ne _ _ _ (by decide), q3, e2]) (fun u hu => by rw [sti_at, pk_un hu]) hs
          rw [if_pos rfl] at h
          exact h
      · have e1 : oneS S 2 v (drwT S 2 v) = mixT (S.2.2.1 v) 8 (chg (drwT S 2 v) / 65536) := by simp [oneS, h0]
        have e2 : drwT S 2 (v + 1) = chg (drwT S 2 v) := by simp [drwT, oneD, h0]
        rw [e1] at hs
        have hyl := mixT_lt hB.1 8 (Nat.le_refl 8) (chg (drwT S 2 v) / 65536)
        have h256 : 2 ^ S.1 1 ≤ 2 ^ 8 := Nat.pow_le_pow_right (by omega) hk.2
        refine ⟨fun c => absurd c (nI_nle (by omega) (by omega)), fun _ => ms_drawnOf (d := drwT S 2 v) hM (by rw [sti_ne _ _ _ (by decide)]; exact hR) hG hv6 (by rw [sti_ne _ _ _ (by decide)]; exact q3) ⟨vp_in_nI (by omega) (by decide), vp_in_nI (by omega) (by decide), ?_⟩⟩
        rw [sti_at, pk_us]
        have h := fin2 (mixT (S.2.2.1 v) 8 (chg (drwT S 2 v) / 65536)) (sti (sti I 293 v 0) 287 12 (nI (chg (drwT S 2 v)))) (fun q a b => by rw [sti_ne _ _ _ a, sti_ne _ _ _ b]) (fun j hj => by rw [sti_at, pk_un hj, sti_ne _ _ _ (by decide)]) (by rw [sti_at, pk_us, e2]) (fun u hu => by rw [sti_ne _ _ _ (by decide), sti_at, pk_un hu]) hs
        refine ⟨fun c => ⟨vp_in_nI hv6 (by decide), ?_⟩, fun c => ⟨vp_in_nI hv6 (by decide), ?_⟩⟩
        · rw [if_neg (fun q => c (by rw [q]; rfl))] at h
          exact h
        · rw [if_pos ((nI_z (by omega)).mp c)] at h
          exact h
    · refine ⟨fun _ => ⟨fun _ => ⟨vp_in_nI hv6 (by decide), fun _ => ⟨fun _ => ⟨vp_in_nI hv6 (by decide), rk (S.2.2.1 v) + 1, ?_⟩, fun c => absurd c (by decide)⟩, fun c => absurd (show (1 : Int32) < nI 3 by decide) c⟩, fun c => absurd c (by decide)⟩, fun c => absurd c (by decide)⟩
      rw [sti2]
      have hall := allT_lt hB.1 8 (Nat.le_refl 8)
      refine lp_sendRows (sti I 293 v (nI (rk (S.2.2.1 v)))) hM hB.1 hk.2 hk.1 (by rw [sti_ne _ _ _ (by decide)]; exact hR.k) (by rw [sti_ne _ _ _ (by decide)]; exact hR.2.2.2 v hv6) hv6 hrk (fun I' w1 w2 w3 => ?_) (rk (S.2.2.1 v)) 0 _ (by omega) (fun _ _ => rfl) (fun _ _ => rfl) (fun j hj => absurd hj (Nat.not_lt_zero j))
      refine keep I' (fun q a b c => by rw [w1 q c, sti_ne _ _ _ b]) (fun j _ => by rw [w1 287 (by decide), sti_ne _ _ _ (by decide)]) (by rw [w1 287 (by decide), sti_ne _ _ _ (by decide), q3, drw_same (by decide)]) (fun u hu => by rw [w1 293 (by decide), sti_at, pk_un hu]) (fun j hj => by rw [w2 j hj, sti_ne _ _ _ (by decide)]) ?_
      unfold sndM
      rw [if_pos rfl]
      refine ⟨by rw [w1 293 (by decide), sti_at, pk_us, List.length_reverse, hall.2]; rfl, fun j hj => ?_⟩
      rw [List.length_reverse] at hj
      rw [rowT_all _ 8 j hj]
      rw [hall.2] at hj
      exact w3 j hj
theorem ms_laysSends {I : KI} {Q : KQ} {S : Snap} {post : KI → Prop} (hM : MdQ Q) (hN : RowIs (I 288) S) (hG : Gs S) (hr : S.1 4 < 2 ^ 31) (hp : ∀ I', (∀ q, q ≠ 287 → q ≠ 293 → q ≠ 294 → I' q = I q) → (∀ j, j ≠ 12 → I' 287 j = I 287 j) → I' 287 12 = nI (drwT S (S.1 2) (S.1 0)) → SentM I' (sndM S (S.1 2)) (S.1 0) → post I') : wp_X11_laysSends I Q 287 post := by
  unfold wp_X11_laysSends
  rw [hM.now, tc5, hN.d]
  exact ⟨S.1 0 + 1, lp_lays I hM hN hG rfl hr hp (S.1 0) 0 _ (by omega) (fun q a _ _ => sti_ne _ _ _ a) (fun j hj => by rw [sti_at, pk_un hj]) (by rw [sti_at, pk_us]; rfl) (fun u hu => absurd hu (Nat.not_lt_zero u))⟩
/-! hearing -/
theorem lp_hear1 {Q : KQ} {v u k s : Nat} {xs : List Nat} {kk : KI → Prop} (I0 : KI) (hM : MdQ Q) (hk : k ≤ 8) (hu : u < 6) (hv : v < 6) (hs : s < 2 ^ 32) (hb : s.testBit u = true) (hl8 : xs.length ≤ 8) (h1 : I0 293 u = nI xs.length) (h2 : ∀ j, j < xs.length → I0 294 (8 * u + j) = nI (xs.getD j 0)) (hlt : ∀ x ∈ xs, x < 2 ^ k) : ∀ d i I f, i + d = xs.length → (∀ q, q ≠ 288 → q ≠ 292 → I q = I0 q) → (∀ j, (j < 21 + 8 * v ∨ 29 + 8 * v ≤ j) → I 288 j = I0 288 j) → Gb f k → KnIs (I 288) v (kn f) → (∀ I', (∀ q, q ≠ 288 → q ≠ 292 → I' q = I0 q) → (∀ j, (j < 21 + 8 * v ∨ 29 + 8 * v ≤ j) → I' 288 j = I0 288 j) → KnIs (I' 288) v (kn ((xs.drop i).foldl adS f)) → kk I') → wp_X11_hears_L15 Q 287 (nI v) (nI s) (nI u) kk (d + 1) I (nI i) := by
  intro d
  induction d with
  | zero =>
    intro i I f hi q1 q2 hG hK hp
    have : i = xs.length := by omega
    subst this
    unfold wp_X11_hears_L15
    rw [hM.sendMany, nI_clamp (n := u) (by omega), q1 293 (by decide) (by decide), h1]
    have e : xs.drop xs.length = [] := by simp
    rw [e] at hp
    exact ⟨vp_in_nI hu (by decide), br_t (nI_le (Nat.le_refl _) (by omega)) (hp I q1 q2 hK)⟩
  | succ d ih =>
    intro i I f hi q1 q2 hG hK hp
    have hil : i < xs.length := by omega
    have hx : xs.getD i 0 < 2 ^ k := hlt _ (by
      have : xs.getD i 0 = xs[i] := by simp [hil]
      rw [this]; exact List.getElem_mem hil)
    unfold wp_X11_hears_L15
    rw [hM.sendMany, hM.send, nI_clamp (n := u) (by omega), q1 293 (by decide) (by decide), h1, show (8 : Int32) * nI u = nI (8 * u) from pk_mul 8 u, nI_add, nI_clamp (n := 8 * u + i) (by omega), q1 294 (by decide) (by decide), h2 i hil, nI_1]
    refine ⟨vp_in_nI hu (by decide), br_f (nI_ge (by omega) (by omega)) (ms_has hs (by omega) ⟨fun c => ?_, fun _ => ⟨vp_in_nI (by omega) (by decide), ?_⟩⟩)⟩
    · rw [hb] at c
      exact absurd c (by decide)
    · refine ms_learns hM hG hk hx hK hv (fun I' w1 w2 w3 => ?_)
      refine ih (i + 1) I' _ (by omega) (fun q a b => by rw [w1 q a b]; exact q1 q a b) (fun j hj => by rw [w2 j hj]; exact q2 j hj) (Gb_adS hG hk hx) w3 (fun I2 z1 z2 z3 => hp I2 z1 z2 ?_)
      rw [drop_getD xs hil, List.foldl_cons]
      exact z3
theorem lp_hears {Q : KQ} {v k s n : Nat} {L : Nat → List Nat} {f0 : Nat → Nat} {post : KI → Prop} (I0 : KI) (hM : MdQ Q) (hk : k ≤ 8) (hn : n ≤ 6) (hv : v < 6) (hs : s < 2 ^ 32) (hI : I0 288 0 = nI n) (hS : SentM I0 L n) (hlt : ∀ u, u < n → ∀ x ∈ L u, x < 2 ^ k) (hp : ∀ I', (∀ q, q ≠ 288 → q ≠ 292 → I' q = I0 q) → (∀ j, (j < 21 + 8 * v ∨ 29 + 8 * v ≤ j) → I' 288 j = I0 288 j) → KnIs (I' 288) v (kn ((hearL L s n).foldl adS f0)) → post I') : ∀ d u I, u + d = n → (∀ q, q ≠ 288 → q ≠ 292 → I q = I0 q) → (∀ j, (j < 21 + 8 * v ∨ 29 + 8 * v ≤ j) → I 288 j = I0 288 j) → Gb ((hearL L s u).foldl adS f0) k → KnIs (I 288) v (kn ((hearL L s u).foldl adS f0)) → wp_X11_hears_L2 Q 287 (nI v) (nI s) post (d + 1) I (nI u) := by
  intro d
  induction d with
  | zero =>
    intro u I hu q1 q2 hG hK
    have : u = n := by omega
    subst this
    unfold wp_X11_hears_L2
    rw [hM.now, tc0, q2 0 (by omega), hI]
    exact br_t (nI_le (Nat.le_refl _) (by omega)) (hp I q1 q2 hK)
  | succ d ih =>
    intro u I hu q1 q2 hG hK
    have hun : u < n := by omega
    obtain ⟨s1, s2, s3⟩ := hS u hun
    unfold wp_X11_hears_L2
    rw [hM.now, tc0, q2 0 (by omega), hI, nI_1]
    refine br_f (nI_ge (by omega) (by omega)) ?_
    by_cases hb : s.testBit u = true
    · have e : hearL L s (u + 1) = hearL L s u ++ L u := by simp [hearL, hb]
      refine ⟨(L u).length + 1, lp_hear1 I0 hM hk (by omega) hv hs hb s2 s1 s3 (hlt u hun) (L u).length 0 I _ (by omega) q1 q2 hG hK (fun I' z1 z2 z3 => ?_)⟩
      rw [List.drop_zero] at z3
      refine ih (u + 1) I' (by omega) z1 z2 ?_ ?_
      · rw [e, List.foldl_append]
        exact (Gb_fold hk (L u) _ hG (hlt u hun)).1
      · rw [e, List.foldl_append]
        exact z3
    · have hb' : s.testBit u = false := by simpa using hb
      have e : hearL L s (u + 1) = hearL L s u := by simp [hearL, hb']
      have hgo := ih (u + 1) I (by omega) q1 q2 (by rw [e]; exact hG) (by rw [e]; exact hK)
      refine ⟨1, ?_⟩
      unfold wp_X11_hears_L15
      rw [hM.sendMany]
      refine ⟨vp_in_nI (by omega) (by decide), fun _ => hgo, fun _ => ms_has hs (by omega) ⟨fun _ => hgo, fun c => ?_⟩⟩
      rw [hb'] at c
      exact absurd rfl c
theorem ms_hears {I : KI} {Q : KQ} {v k s n : Nat} {L : Nat → List Nat} {f : Nat → Nat} {post : KI → Prop} (hM : MdQ Q) (hk : k ≤ 8) (hn : n ≤ 6) (hv : v < 6) (hs : s < 2 ^ 32) (hI : I 288 0 = nI n) (hS : SentM I L n) (hlt : ∀ u, u < n → ∀ x ∈ L u, x < 2 ^ k) (hG : Gb f k) (hK : KnIs (I 288) v (kn f)) (hp : ∀ I', (∀ q, q ≠ 288 → q ≠ 292 → I' q = I q) → (∀ j, (j < 21 + 8 * v ∨ 29 + 8 * v ≤ j) → I' 288 j = I 288 j) → KnIs (I' 288) v (kn ((hearL L s n).foldl adS f)) → post I') : wp_X11_hears I Q 287 (nI v) (nI s) post := ⟨n + 1, lp_hears I hM hk hn hv hs hI hS hlt hp n 0 I (by omega) (fun _ _ _ => rfl) (fun _ _ => rfl) hG hK⟩
/-- by how much a rank would grow -/
def grT (S : Snap) (L : Nat → List Nat) (v s : Nat) : Nat := rk ((hearL L s (S.1 0)).foldl adS (S.2.2.1 v)) - rk (S.2.2.1 v)
theorem gr_perm {S : Snap} (hG : Gs S) (m : Nat) {v : Nat} (hv : v < 6) (s : Nat) : grT S (sndM S m) v s = grT S (sndL S m) v s := by
  have hB := hG.2.2.2.2.2.2.2.1 v hv
  have hl1 := hearL_lt (L := sndM S m) (s := s) (k := S.1 1) (n := S.1 0) (fun u hu => (sndM_lt hG m (by have := hG.1; omega)).1) (S.1 0) (Nat.le_refl _)
  have hl2 := hearL_lt (L := sndL S m) (s := s) (k := S.1 1) (n := S.1 0) (fun u hu => (sndL_lt hG m (by have := hG.1; omega)).1) (S.1 0) (Nat.le_refl _)
  unfold grT
  rw [rk_cnt (cnt_fold hG.2.1.2 _ _ hB.1 hl1 hB.2) (cnt_fold hG.2.1.2 _ _ hB.1 hl2 hB.2) (kn_perm hG.2.1.2 hB.1 hl1 (hear_perm S m s (S.1 0)))]
theorem ms_growth {I : KI} {Q : KQ} {v s : Nat} {S : Snap} {m : Nat} {post : Int32 → KI → Prop} (hM : MdQ Q) (hN : RowIs (I 288) S) (hG : Gs S) (hS : SentM I (sndM S m) (S.1 0)) (hv : v < 6) (hs : s < 2 ^ 32) (hp : ∀ I', (∀ q, q ≠ 292 → q ≠ 295 → I' q = I q) → post (nI (grT S (sndL S m) v s)) I') : wp_X11_growth I Q 287 (nI v) (nI s) post := by
  have hB := hG.2.2.2.2.2.2.2.1 v hv
  have hn := hG.1
  have hk := hG.2.1
  have hl1 := hearL_lt (L := sndM S m) (s := s) (k := S.1 1) (n := S.1 0) (fun u hu => (sndM_lt hG m (by omega)).1) (S.1 0) (Nat.le_refl _)
  have hf := Gb_fold hk.2 _ _ hB.1 hl1
  unfold wp_X11_growth
  rw [hM.now, hM.one, show ((21 : Int32) + (8 : Int32) * nI v) = nI (21 + 8 * v) by rw [show (8 : Int32) * nI v = nI (8 * v) from pk_mul 8 v]; exact nI_add 21 (8 * v)]
  refine ms_rank hM (hN.2.2.2 v hv) hv hB.2 (rk_le8 hB.1) ?_
  refine ms_copies (i := 21 + 8 * v) (j := 0) (n := 8) (by decide) (by omega) (by omega) (by decide) (by decide) ?_
  have e : ∀ q, q ≠ 295 → cpi I 288 295 (21 + 8 * v) 0 8 q = I q := fun q hq => cpi_ne _ _ _ _ _ _ hq
  refine ms_hears hM hk.2 hn.2 hv hs (by rw [e 288 (by decide)]; exact hN.n) (L := sndM S m) (fun u hu => by rw [e 293 (by decide), e 294 (by decide)]; exact hS u hu) (fun u hu => (sndM_lt hG m (by omega)).1) hB.1 (by rw [e 288 (by decide)]; exact hN.2.2.2 v hv) (fun I5 w1 w2 w3 => ?_)
  refine ms_rank hM w3 hv (cnt_fold hk.2 _ _ hB.1 hl1 hB.2) (rk_le8 hf.1) ?_
  refine ms_copies (i := 0) (j := 21 + 8 * v) (n := 8) (by decide) (by omega) (by omega) (by decide) (by decide) ?_
  rw [pk_sub hf.2]
  rw [← gr_perm hG m hv s] at hp
  refine hp _ (fun q a b => ?_)
  by_cases h288 : q = 288
  · subst h288
    funext t
    by_cases ht : 21 + 8 * v ≤ t ∧ t < 21 + 8 * v + 8
    · rw [cpi_in _ _ _ _ _ _ ht.1 ht.2, w1 295 (by decide) (by decide), cpi_in _ _ _ _ _ _ (by omega) (by omega)]
      congr 1
      omega
    · rw [cpi_out _ _ _ _ _ _ (by omega), w2 t (by omega), e 288 (by decide)]
  · rw [cpi_ne _ _ _ _ _ _ h288, w1 q h288 a, e q b]
