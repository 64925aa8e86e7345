/-! PURE, 32: joined, as the reference reckons it -/
theorem subE_iff {l p : Nat} : ∀ e, subE l p e = true ↔ ∀ i, i < e → l.testBit i = true → p.testBit i = true := by
  intro e
  induction e with
  | zero => exact ⟨fun _ i hi => absurd hi (Nat.not_lt_zero i), fun _ => rfl⟩
  | succ e ih =>
    simp only [subE, Bool.and_eq_true, ih]
    constructor
    · rintro ⟨h1, h2⟩ i hi hl
      by_cases hie : i = e
      · subst hie; rw [hl] at h2; simpa using h2
      · exact h1 i (by omega) hl
    · intro h
      refine ⟨fun i hi => h i (by omega), ?_⟩
      cases hl : l.testBit e with
      | false => rfl
      | true => rw [h e (by omega) hl]; rfl
theorem subE_andn {l p E : Nat} (hl : l < 2 ^ E) : andn l p = 0 ↔ subE l p E = true := by
  rw [subE_iff]
  constructor
  · intro h i _ hli
    have := congrArg (fun z => z.testBit i) h
    simp only [andn_bit, hli, Nat.zero_testBit, Bool.true_and] at this
    simpa using this
  · intro h
    apply Nat.eq_of_testBit_eq
    intro j
    rw [andn_bit, Nat.zero_testBit]
    cases hj : l.testBit j with
    | false => rfl
    | true =>
      have : j < E := Nat.lt_of_not_le (fun q => by
        rw [Nat.testBit_lt_two_pow (Nat.lt_of_lt_of_le hl (Nat.pow_le_pow_right (by omega) q))] at hj
        cases hj)
      rw [h j this hj]; rfl
theorem lp_mo34 {p E : Nat} {kk : KJ → Prop} (J0 : KJ) (hp15 : p < 2 ^ 15) (hE : E ≤ 15) (hp : ∀ J, (∀ q, q ≠ 287 → J q = J0 q) → (∀ j, j ≠ 18 → J 287 j = J0 287 j) → J 287 18 = lN (10 ^ cnN (fun i => p.testBit i) E) → kk J) : ∀ d e J, e + d = E → (∀ q, q ≠ 287 → J q = J0 q) → (∀ j, j ≠ 18 → J 287 j = J0 287 j) → J 287 18 = lN (10 ^ cnN (fun i => p.testBit i) e) → wp_X11_laysOdds_L34 287 (nI p) (nI E) kk (d + 1) J (nI e) := by
  intro d
  induction d with
  | zero =>
    intro e J he w1 w2 w3
    have : e = E := by omega
    subst this
    unfold wp_X11_laysOdds_L34
    exact br_t (nI_le (Nat.le_refl _) (by omega)) (hp J w1 w2 w3)
  | succ d ih =>
    intro e J he w1 w2 w3
    unfold wp_X11_laysOdds_L34
    rw [w3, show (1 : Int64) = lN 1 from rfl, show (10 : Int64) = lN 10 from rfl, lN_mul, lN_mul, nI_1, Nat.mul_one, ← Nat.pow_succ]
    refine br_f (nI_ge (by omega) (by omega)) (ms_has (by omega) (by omega) ⟨fun c => ?_, fun c => ?_⟩)
    · refine ih (e + 1) _ (by omega) (fun q hq => by rw [stj_ne _ _ _ hq]; exact w1 q hq) (fun j hj => by rw [stj_at, pk_uLn hj]; exact w2 j hj) ?_
      rw [stj_at, pk_uLs, cnN_f (q := fun i => p.testBit i) ((bI_eq _).mp c)]
    · refine ih (e + 1) _ (by omega) (fun q hq => by rw [stj_ne _ _ _ hq]; exact w1 q hq) (fun j hj => by rw [stj_at, pk_uLn hj]; exact w2 j hj) ?_
      rw [stj_at, pk_uLs, cnN_t (q := fun i => p.testBit i) ((bI_ne _).mp c)]
theorem lp_mo108 {c p l E : Nat} {kk : Int64 → Prop} (hc : c ≤ 10) (hp15 : p < 2 ^ 15) (hl : l < 2 ^ 15) (hE : E ≤ 15) (hp : kk (lN (byT c p l E))) : ∀ d e, e + d = E → wp_X11_laysOdds_L108 (nI c) (nI p) (nI E) (nI l) kk (d + 1) (lN (byT c p l e)) (nI e) := by
  intro d
  induction d with
  | zero =>
    intro e he
    have : e = E := by omega
    subst this
    unfold wp_X11_laysOdds_L108
    exact br_t (nI_le (Nat.le_refl _) (by omega)) hp
  | succ d ih =>
    intro e he
    have ih := ih (e + 1) (by omega)
    simp only [byT] at ih
    unfold wp_X11_laysOdds_L108
    rw [show (1 : Int64) = lN 1 from rfl, show (10 : Int64) = lN 10 from rfl, nI_l (by omega), lN_sub hc, lN_mul, lN_mul, lN_mul, nI_1]
    refine br_f (nI_ge (by omega) (by omega)) (ms_has (by omega) (by omega) ⟨fun z => ms_has (by omega) (by omega) ⟨fun z2 => ?_, fun z2 => ?_⟩, fun z => ?_⟩)
    · rw [if_pos ((bI_ne _).mp z), if_neg (by rw [(bI_eq _).mp z2]; decide)] at ih
      exact ih
    · rw [if_pos ((bI_ne _).mp z), if_pos ((bI_ne _).mp z2)] at ih
      exact ih
    · rw [if_neg (by rw [(bI_eq _).mp z]; decide)] at ih
      exact ih
noncomputable def abF (c p n E : Nat) : Nat → Nat := fun l => if subE l p E = true then byT c p l E * (if joinB l n = true then 1 else 0) else 0
theorem lp_mo75 {I : KI} {Q : KQ} {c p n E : Nat} {kk : KJ → Prop} (J0 : KJ) (hM : MdQ Q) (h0 : I 288 0 = nI n) (h1 : 1 ≤ n) (hn : n ≤ 6) (hc : c ≤ 10) (hp15 : p < 2 ^ 15) (hE : E ≤ 15) (hp : ∀ J, (∀ q, q ≠ 287 → J q = J0 q) → (∀ j, j ≠ 17 → J 287 j = J0 287 j) → J 287 17 = lN (abN c p n E) → kk J) : ∀ d l J, l + d = 2 ^ E → (∀ q, q ≠ 287 → J q = J0 q) → (∀ j, j ≠ 17 → J 287 j = J0 287 j) → J 287 17 = lN (smN (abF c p n E) l) → wp_X11_laysOdds_L75 I Q 287 (nI c) (nI p) (nI E) kk (d + 1) J (nI l) := by
  have h2E : 2 ^ E ≤ 2 ^ 15 := Nat.pow_le_pow_right (by omega) hE
  intro d
  induction d with
  | zero =>
    intro l J hl w1 w2 w3
    have : l = 2 ^ E := by omega
    subst this
    unfold wp_X11_laysOdds_L75
    rw [ni_shl1 _ (by omega)]
    exact br_t (nI_le (Nat.le_refl _) (by omega)) (hp J w1 w2 w3)
  | succ d ih =>
    intro l J hl w1 w2 w3
    have hlE : l < 2 ^ E := by omega
    have han : andn l p < 2 ^ E := andn_lt hlE
    have hgo0 : abF c p n E l = 0 → wp_X11_laysOdds_L75 I Q 287 (nI c) (nI p) (nI E) kk (d + 1) J (nI (l + 1)) := fun z => ih (l + 1) J (by omega) w1 w2 (by rw [w3]; simp only [smN]; rw [z, Nat.add_zero])
    unfold wp_X11_laysOdds_L75
    rw [ni_shl1 _ (by omega), ni_andn, show l ^^^ (l &&& p) = andn l p from rfl, nI_1, nI_z (by omega), subE_andn hlE]
    refine br_f (nI_ge (by omega) (by omega)) ⟨fun z => hgo0 (by unfold abF; rw [if_neg z]), fun z => ms_areJoined hM h0 h1 hn (by omega) ⟨fun z2 => hgo0 (by unfold abF; rw [if_pos z, if_neg (by rw [(bI_eq _).mp z2]; decide), Nat.mul_zero]), fun z2 => ⟨E + 1, ?_⟩⟩⟩
    refine lp_mo108 hc hp15 (by omega) hE ?_ E 0 (by omega)
    rw [w3, lN_add]
    refine ih (l + 1) _ (by omega) (fun q hq => by rw [stj_ne _ _ _ hq]; exact w1 q hq) (fun j hj => by rw [stj_at, pk_uLn hj]; exact w2 j hj) ?_
    rw [stj_at, pk_uLs]
    simp only [smN]
    unfold abF
    rw [if_pos z, if_pos ((bI_ne _).mp z2), Nat.mul_one]
theorem lp_mo189 {J : KJ} {post : KJ → Prop} : ∀ k a b f, b < 2 ^ k → a < 2 ^ 60 → k ≤ 60 → 2 * k + 1 ≤ f → (¬ lN (Nat.gcd a b) = 0 ∧ (¬ lN (Nat.gcd a b) = 0 ∧ post (stj (stj J 287 17 ((J 287 17) / lN (Nat.gcd a b))) 287 18 (((stj J 287 17 ((J 287 17) / lN (Nat.gcd a b))) 287 18) / lN (Nat.gcd a b))))) → wp_X11_laysOdds_L189 J 287 post f (lN a) (lN b) := by
  intro k
  induction k with
  | zero =>
    intro a b f hb ha hk hf hp
    have : b = 0 := by omega
    subst this
    obtain ⟨f, rfl⟩ : ∃ f', f = f' + 1 := ⟨f - 1, by omega⟩
    rw [Nat.gcd_zero_right] at hp
    unfold wp_X11_laysOdds_L189
    refine br_t ?_ hp
    rw [lg_cmp_eq]
    rfl
  | succ k ih =>
    intro a b f hb ha hk hf hp
    obtain ⟨f, rfl⟩ : ∃ f', f = f' + 1 + 1 := ⟨f - 2, by omega⟩
    have hb60 : b < 2 ^ 60 := Nat.lt_of_lt_of_le hb (Nat.pow_le_pow_right (by omega) hk)
    unfold wp_X11_laysOdds_L189
    rw [lg_cmp_eq, show (lN b = (0 : Int64)) = (b = 0) from propext (pk_lEQ (b := 0) (by omega) (by decide))]
    by_cases h0 : b = 0
    · rw [h0, Nat.gcd_zero_right] at hp
      exact br_t h0 hp
    · have hmod := Nat.mod_lt a (show 0 < b by omega)
      refine br_f h0 ⟨h0, ?_⟩
      rw [pk_lRem (by omega) (by omega) (by omega)]
      have hg : Nat.gcd a b = Nat.gcd b (a % b) := by rw [Nat.gcd_comm, Nat.gcd_rec, Nat.gcd_comm]
      rw [hg] at hp
      unfold wp_X11_laysOdds_L189
      rw [lg_cmp_eq, show (lN (a % b) = (0 : Int64)) = (a % b = 0) from propext (pk_lEQ (b := 0) (by omega) (by decide))]
      by_cases h1 : a % b = 0
      · rw [h1, Nat.gcd_zero_right] at hp
        exact br_t h1 hp
      · have h2 := gcd_half (b := b) (r := a % b) (by omega) hmod
        refine br_f h1 ⟨h1, ?_⟩
        rw [pk_lRem (by omega) (by omega) (by omega)]
        refine ih (a % b) (b % (a % b)) f ?_ (by omega) (by omega) (by omega) ?_
        · rw [Nat.pow_succ] at hb
          omega
        · have hg2 : Nat.gcd b (a % b) = Nat.gcd (a % b) (b % (a % b)) := by rw [Nat.gcd_comm, Nat.gcd_rec, Nat.gcd_comm]
          rw [hg2] at hp
          exact hp
/-! the odds: how many of how many -/
noncomputable def abS (S : Snap) (c : Nat) : Nat := whT c (prT S) (EE S) (2 ^ S.1 0 - 1)
def blS (S : Snap) : Nat := 10 ^ cnN (fun i => (prT S).testBit i) (EE S)
theorem od_bd {S : Snap} (hG : Gs S) {c : Nat} (hc : c ≤ 10) : abS S c ≤ blS S ∧ blS S < 2 ^ 50 ∧ 0 < blS S ∧ 10 ^ cnN (wiE (prT S) (2 ^ S.1 0 - 1)) (EE S) = blS S := by
  have h6 := hG.1
  have e : cnN (wiE (prT S) (2 ^ S.1 0 - 1)) (EE S) = cnN (fun i => (prT S).testBit i) (EE S) := cnN_congr _ (fun i hi => wi_all h6.2 rfl i hi)
  have hE := EE_le hG
  have hcn := cnN_le (fun i => (prT S).testBit i) (EE S)
  have hb : 10 ^ cnN (fun i => (prT S).testBit i) (EE S) ≤ 10 ^ 15 := Nat.pow_le_pow_right (by omega) (by omega)
  refine ⟨?_, ?_, Nat.pow_pos (by omega), by rw [e]; rfl⟩
  · unfold abS blS
    rw [← e]
    exact wh_le hc
  · unfold blS
    omega
theorem sp_reckon {I : KI} {J : KJ} {Q : KQ} {c : Nat} {S : Snap} {post : KJ → Prop} (hQ : NetQ Q 1) (h0 : rq Q 272 0 = 273) (hN : NetIs I 1 S) (hG : Gs S) (hr : S.1 4 < 2 ^ 31) (hc : c ≤ 10) (hp : ∀ J', (∀ q, q ≠ 272 → q ≠ 273 → J' q = J q) → J' 272 1 = lN (abS S c / Nat.gcd (abS S c) (blS S)) → J' 272 2 = lN (blS S / Nat.gcd (abS S c) (blS S)) → post J') : wp_X2_reckon I J Q 272 1 (nI c) post := by
  have h6 := hG.1
  obtain ⟨b1, b2, b3, b4⟩ := od_bd hG hc
  have h26 : 2 ^ S.1 0 ≤ 2 ^ 6 := Nat.pow_le_pow_right (by omega) h6.2
  have h2p : 2 ^ S.1 0 = 2 * 2 ^ (S.1 0 - 1) := by
    obtain ⟨k, hk⟩ : ∃ k, S.1 0 = k + 1 := ⟨S.1 0 - 1, by omega⟩
    rw [hk, Nat.pow_succ, Nat.add_sub_cancel, Nat.mul_comm]
  have h2k := Nat.two_pow_pos (S.1 0 - 1)
  have hE := EE_le hG
  have hcn := cnN_le (wiE (prT S) (2 ^ S.1 0 - 1)) (EE S)
  have hg : 0 < Nat.gcd (abS S c) (blS S) := Nat.gcd_pos_of_pos_right _ b3
  have hgle : Nat.gcd (abS S c) (blS S) ≤ blS S := Nat.le_of_dvd b3 (Nat.gcd_dvd_right _ _)
  unfold wp_X2_reckon
  rw [show I 1 3 = nI (S.1 0) from hN.1 0 (by omega), ni_shl1 _ (by omega), show nI (2 ^ S.1 0) - (1 : Int32) = nI (2 ^ S.1 0 - 1) from pk_sub (a := 2 ^ S.1 0) (b := 1) (by omega), h0, nI_clamp (n := 2 ^ S.1 0 - 1) (by omega)]
  refine ⟨2 ^ (S.1 0 - 1) + 1, lp_reckon J hQ h0 hN hG hr hc (fun J1 w1 w2 => ⟨vp_in_nI (by omega) (by decide), sp_within hQ hN hG hr (by omega) (sp_power (a := 10) (by decide) (by omega) ?_)⟩) (2 ^ (S.1 0 - 1)) 0 J (by omega) (fun _ _ => rfl) (fun j hj => absurd hj (Nat.not_lt_zero j))⟩
  have eall : odd (2 ^ (S.1 0 - 1) - 1) = 2 ^ S.1 0 - 1 := by unfold odd; omega
  have ea : J1 273 (2 ^ S.1 0 - 1) = lN (abS S c) := by
    rw [← eall, w2 _ (by omega), eall]
    rfl
  rw [ea, b4]
  unfold wp_X2_shorten
  have e1 : stj (stj J1 272 1 (lN (abS S c))) 272 2 (lN (blS S)) 272 1 = lN (abS S c) := by rw [stj_at, pk_uLn (by decide), stj_at, pk_uLs]
  have e2 : stj (stj J1 272 1 (lN (abS S c))) 272 2 (lN (blS S)) 272 2 = lN (blS S) := by rw [stj_at, pk_uLs]
  have e3 : ∀ q, q ≠ 272 → q ≠ 273 → stj (stj J1 272 1 (lN (abS S c))) 272 2 (lN (blS S)) q = J q := fun q q1 q2 => by rw [stj_ne _ _ _ q1, stj_ne _ _ _ q1]; exact w1 q q2
  rw [e1, e2]
  refine ⟨2 * 50 + 1, lp_short 50 (blS S) (abS S c) 0 _ (by omega) (by omega) (by decide) (by decide) (Nat.le_refl _) ?_⟩
  rw [Nat.gcd_comm (blS S), lg_cmp_le, show (1 : Int64) = lN 1 from rfl, pk_lLE (by omega) (by decide)]
  refine ⟨fun c1 => ?_, fun c1 => ?_⟩
  · have hg1 : Nat.gcd (abS S c) (blS S) = 1 := by omega
    rw [hg1, Nat.div_one, Nat.div_one] at hp
    exact hp _ e3 e1 e2
  · have hne : ¬ lN (Nat.gcd (abS S c) (blS S)) = 0 := fun z => by
      have := (pk_lEQ (b := 0) (show Nat.gcd (abS S c) (blS S) < 2 ^ 63 by omega) (by decide)).mp z
      omega
    refine ⟨hne, hne, ?_⟩
    refine hp _ (fun q q1 q2 => by rw [stj_ne _ _ _ q1, stj_ne _ _ _ q1]; exact e3 q q1 q2) ?_ ?_
    · rw [stj_at, pk_uLn (by decide), stj_at, pk_uLs, pk_lDiv (by omega) hg (by omega)]
    · rw [stj_at, pk_uLs, stj_at, pk_uLn (by decide), e2, pk_lDiv (by omega) hg (by omega)]
theorem ms_laysOdds {I : KI} {J : KJ} {Q : KQ} {c : Nat} {S : Snap} {post : KJ → Prop} (hM : MdQ Q) (hN : RowIs (I 288) S) (hG : Gs S) (hr : S.1 4 < 2 ^ 31) (hc : c ≤ 10) (hp : ∀ J', (∀ q, q ≠ 287 → J' q = J q) → J' 287 17 = lN (abS S c / Nat.gcd (abS S c) (blS S)) → J' 287 18 = lN (blS S / Nat.gcd (abS S c) (blS S)) → post J') : wp_X11_laysOdds I J Q 287 (nI c) post := by
  have h6 := hG.1
  obtain ⟨b1, b2, b3, b4⟩ := od_bd hG hc
  have hE := EE_le hG
  have hpr := prT_lt hG
  have hg : 0 < Nat.gcd (abS S c) (blS S) := Nat.gcd_pos_of_pos_right _ b3
  have hgle : Nat.gcd (abS S c) (blS S) ≤ blS S := Nat.le_of_dvd b3 (Nat.gcd_dvd_right _ _)
  have hne : ¬ lN (Nat.gcd (abS S c) (blS S)) = 0 := fun z => by
    have := (pk_lEQ (b := 0) (show Nat.gcd (abS S c) (blS S) < 2 ^ 63 by omega) (by decide)).mp z
    omega
  have hpairs : (nI (S.1 0) * (nI (S.1 0) - (1 : Int32))) / (2 : Int32) = nI (EE S) := by
    rw [show nI (S.1 0) - (1 : Int32) = nI (S.1 0 - 1) from pk_sub (a := S.1 0) (b := 1) (by omega), pk_mul]
    refine pk_div (d := 2) ?_ (by decide) (by decide)
    have : S.1 0 * (S.1 0 - 1) ≤ 6 * 6 := Nat.mul_le_mul h6.2 (by omega)
    omega
  unfold wp_X11_laysOdds
  rw [hM.now, tc0, hN.n, hpairs]
  refine ms_present hM hN hG hr ⟨EE S + 1, ?_⟩
  refine lp_mo34 (stj (stj J 287 17 0) 287 18 1) hpr hE (fun J1 w1 w2 w3 => ⟨2 ^ EE S + 1, ?_⟩) (EE S) 0 _ (by omega) (fun _ _ => rfl) (fun _ _ => rfl) (by rw [stj_at, pk_uLs]; rfl)
  refine lp_mo75 J1 hM hN.n (by omega) h6.2 hc hpr hE (fun J2 y1 y2 y3 => ⟨2 * 50 + 1, ?_⟩) (2 ^ EE S) 0 J1 (by omega) (fun _ _ => rfl) (fun _ _ => rfl) (by rw [w2 17 (by decide), stj_at, pk_uLn (by decide), stj_at, pk_uLs]; rfl)
  have ea : abN c (prT S) (S.1 0) (EE S) = abS S c := ab_eq (by omega) h6.2 rfl
  have k17 : J2 287 17 = lN (abS S c) := by rw [y3, ea]
  have k18 : J2 287 18 = lN (blS S) := by rw [y2 18 (by decide), w3]; rfl
  rw [k17, k18]
  refine lp_mo189 50 (abS S c) (blS S) _ b2 (by omega) (by decide) (Nat.le_refl _) ⟨hne, hne, ?_⟩
  refine hp _ (fun q hq => ?_) ?_ ?_
  · rw [stj_ne _ _ _ hq, stj_ne _ _ _ hq, y1 q hq, w1 q hq, stj_ne _ _ _ hq, stj_ne _ _ _ hq]
  · rw [stj_at, pk_uLn (by decide), stj_at, pk_uLs, k17, pk_lDiv (by omega) hg (by omega)]
  · rw [stj_at, pk_uLs, stj_at, pk_uLn (by decide), k18, pk_lDiv (by omega) hg (by omega)]
theorem RelS.fr {I : KI} {J J' : KJ} (h : RelS I J) (h1 : ∀ s, s < 4 → J' (280 + 2 * s) = J (280 + 2 * s)) (h2 : J' 303 = J 303) : RelS I J' := by
  intro s hs
  rcases h s hs with q | ⟨l, n, q1, q2, q3, q4, q5, q6, q7⟩
  · exact Or.inl q
  · exact Or.inr ⟨l, n, q1, q2, q3, q4, q5, q6, fun j hj => by rw [h1 s hs, h2]; exact q7 j hj⟩
theorem op_joined {I : KI} {J : KJ} {Q : KQ} {b : Nat} {x1 x2 : Int32} {post : Int64 → KJ → Prop} (h : Rel I J Q b) (hb31 : b < 2 ^ 30) (hp : ∀ r J4, (∀ p2 : Int64 → KJ → Prop, (∀ J5, Rel I J5 Q b → p2 r J5) → wp_X11_joined I J4 Q 287 x1 x2 p2) → post r J4) : wp_X10_joined I J Q 0 x1 x2 post := by
  obtain ⟨hR, π, hP, S, hs, m, hC⟩ := id h
  obtain ⟨c1, c2, c3, c4, ⟨a, ha, c5, c6⟩, hG, hb, hH⟩ := hC
  obtain ⟨⟨a0, a1, a2, a3, a4, a5, a6, a7, a8, a9, a10⟩, ⟨q1, q2, q3, q4⟩, ⟨d1, d2, d3, d4, d5, d6, -⟩, -, hM⟩ := id hR.1
  have hSh := hR.2.2.2
  unfold wp_X10_joined
  rw [a0, a8]
  rcases inCase x1 0 10 with ⟨c, hc0, hc, rfl⟩ | hno
  · refine br_f (nI_pos (by omega)) (br_f (nI_nlt (b := c) (a := 10) hc (by decide)) ?_)
    rcases inCase x2 0 1 with ⟨w, hw0, hw, rfl⟩ | hno2
    · refine br_f (nI_pos (by omega)) (br_t (nI_le (b := 1) hw (by decide)) (sp_reckon q1 d6 c1 hG (by omega) hc (fun J1 w1 w2 w3 => ?_)))
      have mods : ∀ (p2 : Int64 → KJ → Prop), (∀ J5, Rel I J5 Q b → ((¬ nI w = 0 → p2 (lN (blS S / Nat.gcd (abS S c) (blS S))) J5) ∧ (nI w = 0 → p2 (lN (abS S c / Nat.gcd (abS S c) (blS S))) J5))) → wp_X11_joined I J1 Q 287 (nI c) (nI w) p2 := by
        intro p2 h2
        unfold wp_X11_joined
        refine ms_in1 (lo := 0) (hi := 10) hc0 hc (by decide) ⟨fun z => absurd z (by decide), fun _ => ms_in1 (lo := 0) (hi := 1) hw0 hw (by decide) ⟨fun _ => ms_laysOdds hM c3 hG (by omega) hc (fun J2 y1 y2 y3 => ?_), fun z => absurd z (by decide)⟩⟩
        rw [y2, y3]
        exact h2 J2 (h.J (hSh.fr (fun s hs => by rw [y1 _ (by omega), w1 _ (by omega) (by omega)]) (by rw [y1 _ (by decide), w1 _ (by decide) (by decide)])))
      rw [w2, w3]
      exact ⟨fun z => hp _ _ (fun p2 h2 => mods p2 (fun J5 hr => ⟨fun _ => h2 J5 hr, fun z2 => absurd z2 z⟩)), fun z => hp _ _ (fun p2 h2 => mods p2 (fun J5 hr => ⟨fun z2 => absurd z z2, fun _ => h2 J5 hr⟩))⟩
    · have hbad : post (-1) J := hp _ _ (fun p2 h2 => by
        unfold wp_X11_joined
        exact ms_in1 (lo := 0) (hi := 10) hc0 hc (by decide) ⟨fun z => absurd z (by decide), fun _ => ms_in0 (lo := 0) (hi := 1) hno2 (by decide) (by decide) ⟨fun z => absurd rfl z, fun _ => h2 J h⟩⟩)
      exact ⟨fun _ => hbad, fun z => ⟨fun z2 => (rng_no (lo := 0) (hi := 1) hno2 (by decide) (by decide) z z2).elim, fun _ => hbad⟩⟩
  · have hbad : post (-1) J := hp _ _ (fun p2 h2 => by
      unfold wp_X11_joined
      exact ms_in0 (lo := 0) (hi := 10) hno (by decide) (by decide) ⟨fun _ => h2 J h, fun z => absurd rfl z⟩)
    refine ⟨fun _ => hbad, fun z => ⟨fun _ => hbad, fun z2 => (rng_no (lo := 0) (hi := 10) hno (by decide) (by decide) z ?_).elim⟩⟩
    rw [Int32.le_iff_toInt_le]
    rw [Int32.lt_iff_toInt_lt] at z2
    have h9 : (10 : Int32).toInt = 10 := rfl
    have : (nI 10).toInt = 10 := rfl
    omega
