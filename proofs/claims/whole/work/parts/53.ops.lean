/-! PURE, 16: the calls, one by one: what the class answers, and that the reference then answers the same -/
theorem nodeCase (x : Int32) (n : Nat) : (∃ v, v < n ∧ x = nI v) ∨ ∀ j, j < n → ¬ x = nI j := by
  by_cases h : ∃ v, v < n ∧ x = nI v
  · exact Or.inl h
  · exact Or.inr (fun j hj e => h ⟨j, hj, e⟩)
theorem inCase (x : Int32) (lo hi : Nat) : (∃ j, lo ≤ j ∧ j ≤ hi ∧ x = nI j) ∨ ∀ j, lo ≤ j → j ≤ hi → ¬ x = nI j := by
  by_cases h : ∃ j, lo ≤ j ∧ j ≤ hi ∧ x = nI j
  · exact Or.inl h
  · exact Or.inr (fun j h1 h2 e => h ⟨j, h1, h2, e⟩)
theorem rng_no {x : Int32} {lo hi : Nat} (h : ∀ j, lo ≤ j → j ≤ hi → ¬ x = nI j) (hlo : lo < 2 ^ 31) (hhi : hi < 2 ^ 31) (h1 : ¬ x < nI lo) (h2 : x ≤ nI hi) : False := by
  by_cases hx : x < 0
  · apply h1
    rw [Int32.lt_iff_toInt_lt, nI_toInt hlo]
    have h3 := Int32.lt_iff_toInt_lt.mp hx
    have h4 : (0 : Int32).toInt = 0 := rfl
    omega
  · obtain ⟨j, hj, rfl⟩ := nI_of hx
    have h3 := (nI_leI hj hhi).mp h2
    have h4 : ¬ j < lo := fun q => h1 (nI_lt q hlo)
    exact h j (by omega) h3 rfl
theorem sp_node1 {I : KI} {B v : Nat} {S : Snap} {post : Int32 → Prop} (hN : NetIs I B S) (hG : Gs S) (hv : v < S.1 0) (hp : post 1) : wp_X1_hasNode I B (nI v) post := by
  have h1 := hG.1
  refine sp_hasNode hN hG (fun b hb1 hb0 => ?_)
  cases b with
  | true => exact hp
  | false =>
    rcases hb0 rfl with q | q
    · exact absurd q (nI_pos (by omega))
    · exact absurd q (nI_ge hv (by omega))
theorem sp_node0 {I : KI} {B : Nat} {x : Int32} {S : Snap} {post : Int32 → Prop} (hN : NetIs I B S) (hG : Gs S) (hv : ∀ j, j < S.1 0 → ¬ x = nI j) (hp : post 0) : wp_X1_hasNode I B x post := by
  refine sp_hasNode hN hG (fun b hb1 hb0 => ?_)
  cases b with
  | true =>
    obtain ⟨v, h1, h2⟩ := hb1 rfl
    exact absurd h2 (hv v h1)
  | false => exact hp
theorem sp_set1 {I : KI} {B s : Nat} {S : Snap} {post : Int32 → Prop} (hN : NetIs I B S) (hG : Gs S) (hs : s < 2 ^ S.1 1) (hp : post 1) : wp_X1_isSum I B (nI s) post := by
  have h2 : 2 ^ S.1 1 ≤ 2 ^ 8 := Nat.pow_le_pow_right (by omega) hG.2.1.2
  refine sp_isSum hN hG (fun b hb1 hb0 => ?_)
  cases b with
  | true => exact hp
  | false =>
    rcases hb0 rfl with q | q
    · exact absurd q (nI_pos (by omega))
    · exact absurd q (nI_ge hs (by omega))
theorem sp_set0 {I : KI} {B : Nat} {x : Int32} {S : Snap} {post : Int32 → Prop} (hN : NetIs I B S) (hG : Gs S) (hs : ∀ j, j < 2 ^ S.1 1 → ¬ x = nI j) (hp : post 0) : wp_X1_isSum I B x post := by
  refine sp_isSum hN hG (fun b hb1 hb0 => ?_)
  cases b with
  | true =>
    obtain ⟨v, h1, h2⟩ := hb1 rfl
    exact absurd h2 (hs v h1)
  | false => exact hp
theorem ms_node1 {I : KI} {Q : KQ} {v : Nat} {S : Snap} {post : Int32 → Prop} (hM : MdQ Q) (hN : RowIs (I 288) S) (hG : Gs S) (hv : v < S.1 0) (hp : post 1) : wp_X11_isNode I Q 287 (nI v) post := ms_isNode hM hN.n hG.1.1 hG.1.2 (fun _ _ _ => hp) (fun h => absurd rfl (h v hv))
theorem ms_node0 {I : KI} {Q : KQ} {x : Int32} {S : Snap} {post : Int32 → Prop} (hM : MdQ Q) (hN : RowIs (I 288) S) (hG : Gs S) (hv : ∀ j, j < S.1 0 → ¬ x = nI j) (hp : post 0) : wp_X11_isNode I Q 287 x post := ms_isNode hM hN.n hG.1.1 hG.1.2 (fun j h1 h2 => absurd h2 (hv j h1)) (fun _ => hp)
theorem ms_set1 {s k : Nat} {post : Int32 → Prop} (hk : k ≤ 8) (hs : s < 2 ^ k) (hp : post 1) : wp_X11_isSet (nI s) (nI k) post := ms_isSet hk (fun _ _ _ => hp) (fun h => absurd rfl (h s hs))
theorem ms_set0 {x : Int32} {k : Nat} {post : Int32 → Prop} (hk : k ≤ 8) (hs : ∀ j, j < 2 ^ k → ¬ x = nI j) (hp : post 0) : wp_X11_isSet x (nI k) post := ms_isSet hk (fun j h1 h2 => absurd h2 (hs j h1)) (fun _ => hp)
theorem ms_in1 {j lo hi : Nat} {post : Int32 → Prop} (h1 : lo ≤ j) (h2 : j ≤ hi) (hhi : hi < 2 ^ 31) (hp : post 1) : wp_X11_in (nI j).toInt64 (lN lo) (lN hi) post := ms_in hhi (by omega) (fun _ _ _ _ => hp) (fun h => absurd rfl (h j h1 h2))
theorem ms_in0 {x : Int32} {lo hi : Nat} {post : Int32 → Prop} (h : ∀ j, lo ≤ j → j ≤ hi → ¬ x = nI j) (hhi : hi < 2 ^ 31) (hlo : lo < 2 ^ 31) (hp : post 0) : wp_X11_in x.toInt64 (lN lo) (lN hi) post := ms_in hhi hlo (fun j h1 h2 e => absurd e (h j h1 h2)) (fun _ => hp)
theorem RowIs.stK {g g' : Nat → Int32} {S : Snap} {v : Nat} {f : Nat → Nat} (h : RowIs g S) (h8 : S.1 6 ≤ 8) (hv : v < 6) (he : ∀ j, (j < 21 + 8 * v ∨ 29 + 8 * v ≤ j) → g' j = g j) (hK : KnIs g' v (kn f)) : RowIs g' (setP S v f) := by
  obtain ⟨h1, h2, h3, h4⟩ := h
  refine ⟨fun i hi => by rw [he i (by omega)]; exact h1 i hi, fun i hi => ?_, fun u hu => by rw [he (15 + u) (by omega)]; exact h3 u hu, fun u hu w hw => ?_⟩
  · have hi' : i < S.1 6 := hi
    rw [he (7 + i) (by omega)]; exact h2 i hi
  · show _ = nI (wrd (kn (upk S.2.2.1 v f u)) (32 * w) 32)
    by_cases huv : u = v
    · subst huv; rw [upk_s]; exact hK w hw
    · rw [upk_n huv, he _ (by omega)]; exact h4 u hu w hw
theorem Gs.stP {S : Snap} {v : Nat} {f : Nat → Nat} (h : Gs S) (h1 : Gb f (S.1 1)) (h2 : cntS f = 2 ^ rk f) : Gs (setP S v f) := by
  obtain ⟨g1, g2, g3, g4, g5, g6, g7, g8, g9⟩ := h
  refine ⟨g1, g2, g3, g4, g5, g6, g7, fun u hu => ?_, g9⟩
  show Gb (upk S.2.2.1 v f u) (S.1 1) ∧ cntS (upk S.2.2.1 v f u) = 2 ^ rk (upk S.2.2.1 v f u)
  by_cases huv : u = v
  · subst huv; rw [upk_s]; exact ⟨h1, h2⟩
  · rw [upk_n huv]; exact g8 u hu
theorem Gs.ad {S : Snap} {v s : Nat} (h : Gs S) (hv : v < 6) (hs : s < 2 ^ S.1 1) : Gs (setP S v (adS (S.2.2.1 v) s)) := by
  have hB := h.2.2.2.2.2.2.2.1 v hv
  exact h.stP (Gb_adS hB.1 h.2.1.2 hs) (cnt_adS hB.1 h.2.1.2 hs hB.2)
theorem NetIs.sp {I : KI} {B v : Nat} {S : Snap} (h : NetIs I B S) (hv : v < 6) : ∀ t, t < 8 → I (B + 6 + 2 * v) t = nI (S.2.2.1 v t) := fun t ht => h.2.2.2.1 v hv t ht
set_option maxHeartbeats 1000000 in
theorem op_put {I : KI} {J : KJ} {Q : KQ} {b : Nat} {x1 x2 : Int32} {post : Int32 → KI → KQ → Prop} (h : Rel I J Q b) (hp : ∀ r I4 Q4, (∀ p2 : Int32 → KI → Prop, (∀ I5, Rel I5 J Q4 b → p2 r I5) → wp_X11_put I4 Q4 287 x1 x2 p2) → post r I4 Q4) : wp_X10_put I Q 0 x1 x2 post := by
  obtain ⟨hR, π, hP, S, hs, m, hC⟩ := id h
  obtain ⟨c1, c2, c3, c4, ⟨a, ha, c5, c6⟩, hG, hb, hH⟩ := hC
  obtain ⟨⟨a0, a1, -⟩, ⟨q1, -⟩, -, -, hM⟩ := id hR.1
  have h2k : 2 ^ S.1 1 ≤ 2 ^ 8 := Nat.pow_le_pow_right (by omega) hG.2.1.2
  unfold wp_X10_put
  rw [a0, a1]
  rcases nodeCase x1 (S.1 0) with ⟨v, hv, rfl⟩ | hno
  · have hv6 : v < 6 := by have := hG.1; omega
    have hB := hG.2.2.2.2.2.2.2.1 v hv6
    refine sp_node1 c1 hG hv ⟨fun c => absurd c (by decide), fun _ => ?_⟩
    rcases nodeCase x2 (2 ^ S.1 1) with ⟨s, hs1, rfl⟩ | hno2
    · refine sp_set1 c1 hG hs1 ⟨fun c => absurd c (by decide), fun _ => ⟨fun c => ⟨vp_in_nI hv6 (by decide), ?_⟩, fun c => hp _ _ _ (fun p2 h2 => ?_)⟩⟩
      · rw [q1.2.2.1, nI_clamp (n := v) (by omega), q1.2.2.2.2.1 v hv6]
        refine sp_rest (f := S.2.2.1 v) (by omega) (by rw [q1.2.2.2.2.2 v hv6]; exact c1.sp hv6) ⟨fun d => ?_, fun d => hp _ _ _ (fun p2 h2 => ?_)⟩
        · have hr : red (S.2.2.1 v) s ≠ 0 := fun z => d (by rw [z]; rfl)
          refine sp_keep hP c2 q1 c1 hG.2.2.2.2.2.1.2 (by omega) (fun I' Q' π' w1 w2 w3 w4 => ⟨vp_in_nI hv6 (by decide), ?_⟩)
          have hQ' := hR.1.fr w2
          obtain ⟨⟨a0', a1', -⟩, ⟨q1', -⟩, -, -, hM'⟩ := id hQ'
          have n1 : NetIs I' 1 S := c1.fr (fun k z1 z2 => w1 k (by omega))
          rw [a0', q1'.2.2.1, q1'.2.2.2.2.1 v hv6]
          refine sp_add (f := S.2.2.1 v) (k := S.1 1) (q1'.2.2.2.2.2 v hv6) hB.1 hG.2.1.2 (by omega) (n1.sp hv6) (fun g z1 z2 => ⟨vp_in_nI hv6 (by decide), ?_⟩)
          have hG2 := hG.ad hv6 hs1
          have hB2 := hG2.2.2.2.2.2.2.2.1 v hv6
          have eSp : (setP S v (adS (S.2.2.1 v) s)).2.2.1 v = adS (S.2.2.1 v) s := upk_s
          rw [eSp] at hB2
          refine sp_rank (f := adS (S.2.2.1 v) s) (by rw [q1'.2.2.2.2.2 v hv6, upk_s]; exact z1) (fun t ht => by have := Gb_lt hB2.1 ht; omega) (hp _ _ _ (fun p2 h2 => ?_))
          have f1 : ∀ q, 122 ≤ q → upk I' (1 + 6 + 2 * v) g q = I q := fun q hq => by rw [upk_n (by omega)]; exact w1 q (by omega)
          unfold wp_X11_put
          refine ms_node1 hM' (by rw [f1 288 (by omega)]; exact c3) hG hv ⟨fun c => absurd c (by decide), fun _ => ⟨fun c' => absurd c' c, fun _ => ?_⟩⟩
          rw [hM'.now, tc1, f1 288 (by omega), c3.k]
          refine ms_set1 hG.2.1.2 hs1 ⟨fun _ => ms_known hM' (by rw [f1 288 (by omega)]; exact c3.2.2.2 v hv6) hv6 (by omega) ⟨fun _ => ?_, fun c' => ?_⟩, fun c' => absurd c' (by decide)⟩
          · refine ms_remembers hM' (by rw [f1 288 (by omega)]; exact c3) hG hH (by rw [f1 287 (by omega)]; exact c4) (by rw [f1 287 (by omega)]; exact c5) c2.2.1 ha (by rw [f1 289 (by omega)]; exact c6) (fun I1 y1 y2 y3 y4 y5 => ?_)
            have e288 : I1 288 = I 288 := by rw [y1 288 (by decide) (by decide), f1 288 (by omega)]
            refine ms_learns hM' hB.1 hG.2.1.2 hs1 (by rw [e288]; exact c3.2.2.2 v hv6) hv6 (fun I2 u1 u2 u3 => ms_rank hM' u3 hv6 hB2.2 (rk_le8 hB2.1) (h2 I2 ?_))
            have f2 : ∀ q, q ≠ 287 → q ≠ 288 → q ≠ 289 → q ≠ 292 → I2 q = upk I' (1 + 6 + 2 * v) g q := fun q d1 d2 d3 d4 => by rw [u1 q d2 d4, y1 q d1 d3]
            refine ⟨hR.fr (Nat.le_refl b) w2 ⟨fun q hq => ?_, ?_, fun j hj => ?_⟩, π', w3, setP S v (adS (S.2.2.1 v) s), keepH m hs S, keepN m, RelC.mk2 ?_ ?_ ?_ ?_ (show (a + 1) % 6 < 6 by omega) ?_ ?_ hG2 hb (hH.keep hG hb c2.2.1)⟩
            · rw [f2 q (by omega) (by omega) (by omega) (by omega), upk_n (by omega)]; exact w1 q (by omega)
            · rw [f2 274 (by omega) (by omega) (by omega) (by omega), f1 274 (by omega)]
            · rw [u1 287 (by decide) (by decide), y2 j (by omega) (by omega), f1 287 (by omega)]
            · exact (n1.stP hv6 z1).fr (fun k d1 d2 => f2 k (by omega) (by omega) (by omega) (by omega))
            · exact w4.fr w3 (fun k d1 d2 => by rw [f2 k (by omega) (by omega) (by omega) (by omega), upk_n (by omega)])
            · exact (show RowIs (I1 288) S by rw [e288]; exact c3).stK hG.2.2.2.2.2.1.2 hv6 u2 u3
            · rw [u1 287 (by decide) (by decide)]; exact y3
            · rw [u1 287 (by decide) (by decide)]; exact y4
            · rw [u1 289 (by decide) (by decide)]; exact y5
          · exact absurd (of_decide_eq_true ((bI_ne _).mp c')) hr
        · have hr : red (S.2.2.1 v) s = 0 := (nI_z (Nat.lt_trans (red_lt hB.1 (x := s) (n := 8) (by omega) hG.2.1.2) (by decide))).mp d
          unfold wp_X11_put
          refine ms_node1 hM c3 hG hv ⟨fun c => absurd c (by decide), fun _ => ⟨fun c' => absurd c' c, fun _ => ?_⟩⟩
          rw [hM.now, tc1, c3.k]
          refine ms_set1 hG.2.1.2 hs1 ⟨fun _ => ms_known hM (c3.2.2.2 v hv6) hv6 (by omega) ⟨fun c' => ?_, fun _ => h2 I h⟩, fun c' => absurd c' (by decide)⟩
          exact absurd hr (of_decide_eq_false ((bI_eq _).mp c'))
      · unfold wp_X11_put
        exact ms_node1 hM c3 hG hv ⟨fun c => absurd c (by decide), fun _ => ⟨fun _ => h2 I h, fun c' => absurd c c'⟩⟩
    · refine sp_set0 c1 hG hno2 ⟨fun _ => hp _ _ _ (fun p2 h2 => ?_), fun c => absurd rfl c⟩
      unfold wp_X11_put
      refine ms_node1 hM c3 hG hv ⟨fun c => absurd c (by decide), fun _ => ⟨fun _ => h2 I h, fun _ => ?_⟩⟩
      rw [hM.now, tc1, c3.k]
      exact ms_set0 hG.2.1.2 hno2 ⟨fun c => absurd rfl c, fun _ => h2 I h⟩
  · refine sp_node0 c1 hG hno ⟨fun _ => hp _ _ _ (fun p2 h2 => ?_), fun c => absurd rfl c⟩
    unfold wp_X11_put
    exact ms_node0 hM c3 hG hno ⟨fun _ => h2 I h, fun c => absurd rfl c⟩
