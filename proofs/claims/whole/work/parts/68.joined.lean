/-! PURE, 31: joined -/
def bcF (x0 : Int32) : Int32 := (((((((x0 - (((x0.toUInt32 >>> ((1 : Int32).toUInt32 &&& Int32.toUInt32 31)).toInt32) &&& (1431655765 : Int32))) &&& (858993459 : Int32)) + ((((x0 - (((x0.toUInt32 >>> ((1 : Int32).toUInt32 &&& Int32.toUInt32 31)).toInt32) &&& (1431655765 : Int32))).toUInt32 >>> ((2 : Int32).toUInt32 &&& Int32.toUInt32 31)).toInt32) &&& (858993459 : Int32))) + (((((x0 - (((x0.toUInt32 >>> ((1 : Int32).toUInt32 &&& Int32.toUInt32 31)).toInt32) &&& (1431655765 : Int32))) &&& (858993459 : Int32)) + ((((x0 - (((x0.toUInt32 >>> ((1 : Int32).toUInt32 &&& Int32.toUInt32 31)).toInt32) &&& (1431655765 : Int32))).toUInt32 >>> ((2 : Int32).toUInt32 &&& Int32.toUInt32 31)).toInt32) &&& (858993459 : Int32))).toUInt32 >>> ((4 : Int32).toUInt32 &&& Int32.toUInt32 31)).toInt32)) &&& (252645135 : Int32)) + (((((((x0 - (((x0.toUInt32 >>> ((1 : Int32).toUInt32 &&& Int32.toUInt32 31)).toInt32) &&& (1431655765 : Int32))) &&& (858993459 : Int32)) + ((((x0 - (((x0.toUInt32 >>> ((1 : Int32).toUInt32 &&& Int32.toUInt32 31)).toInt32) &&& (1431655765 : Int32))).toUInt32 >>> ((2 : Int32).toUInt32 &&& Int32.toUInt32 31)).toInt32) &&& (858993459 : Int32))) + (((((x0 - (((x0.toUInt32 >>> ((1 : Int32).toUInt32 &&& Int32.toUInt32 31)).toInt32) &&& (1431655765 : Int32))) &&& (858993459 : Int32)) + ((((x0 - (((x0.toUInt32 >>> ((1 : Int32).toUInt32 &&& Int32.toUInt32 31)).toInt32) &&& (1431655765 : Int32))).toUInt32 >>> ((2 : Int32).toUInt32 &&& Int32.toUInt32 31)).toInt32) &&& (858993459 : Int32))).toUInt32 >>> ((4 : Int32).toUInt32 &&& Int32.toUInt32 31)).toInt32)) &&& (252645135 : Int32)).toUInt32 >>> ((8 : Int32).toUInt32 &&& Int32.toUInt32 31)).toInt32)) + ((((((((x0 - (((x0.toUInt32 >>> ((1 : Int32).toUInt32 &&& Int32.toUInt32 31)).toInt32) &&& (1431655765 : Int32))) &&& (858993459 : Int32)) + ((((x0 - (((x0.toUInt32 >>> ((1 : Int32).toUInt32 &&& Int32.toUInt32 31)).toInt32) &&& (1431655765 : Int32))).toUInt32 >>> ((2 : Int32).toUInt32 &&& Int32.toUInt32 31)).toInt32) &&& (858993459 : Int32))) + (((((x0 - (((x0.toUInt32 >>> ((1 : Int32).toUInt32 &&& Int32.toUInt32 31)).toInt32) &&& (1431655765 : Int32))) &&& (858993459 : Int32)) + ((((x0 - (((x0.toUInt32 >>> ((1 : Int32).toUInt32 &&& Int32.toUInt32 31)).toInt32) &&& (1431655765 : Int32))).toUInt32 >>> ((2 : Int32).toUInt32 &&& Int32.toUInt32 31)).toInt32) &&& (858993459 : Int32))).toUInt32 >>> ((4 : Int32).toUInt32 &&& Int32.toUInt32 31)).toInt32)) &&& (252645135 : Int32)) + (((((((x0 - (((x0.toUInt32 >>> ((1 : Int32).toUInt32 &&& Int32.toUInt32 31)).toInt32) &&& (1431655765 : Int32))) &&& (858993459 : Int32)) + ((((x0 - (((x0.toUInt32 >>> ((1 : Int32).toUInt32 &&& Int32.toUInt32 31)).toInt32) &&& (1431655765 : Int32))).toUInt32 >>> ((2 : Int32).toUInt32 &&& Int32.toUInt32 31)).toInt32) &&& (858993459 : Int32))) + (((((x0 - (((x0.toUInt32 >>> ((1 : Int32).toUInt32 &&& Int32.toUInt32 31)).toInt32) &&& (1431655765 : Int32))) &&& (858993459 : Int32)) + ((((x0 - (((x0.toUInt32 >>> ((1 : Int32).toUInt32 &&& Int32.toUInt32 31)).toInt32) &&& (1431655765 : Int32))).toUInt32 >>> ((2 : Int32).toUInt32 &&& Int32.toUInt32 31)).toInt32) &&& (858993459 : Int32))).toUInt32 >>> ((4 : Int32).toUInt32 &&& Int32.toUInt32 31)).toInt32)) &&& (252645135 : Int32)).toUInt32 >>> ((8 : Int32).toUInt32 &&& Int32.toUInt32 31)).toInt32)).toUInt32 >>> ((16 : Int32).toUInt32 &&& Int32.toUInt32 31)).toInt32)) &&& (63 : Int32)
theorem bcF_all : ∀ a, a < 64 → bcF (nI a) = nI (pcT a 6) := by decide +kernel
theorem sp_bits {a : Nat} {post : Int32 → Prop} (ha : a < 64) (hp : post (nI (pcT a 6))) : wp_J6_bitCount_0f7a4 (nI a) post := by
  unfold wp_J6_bitCount_0f7a4
  show post (bcF (nI a))
  rw [bcF_all a ha]
  exact hp
def xE (p A e : Nat) : Nat := if wiE p A e = true then 1 else 0
theorem cn_sm (p A : Nat) : ∀ E, smN (xE p A) E = cnN (wiE p A) E := by
  intro E
  induction E with
  | zero => rfl
  | succ E ih =>
    simp only [smN]
    rw [ih]
    unfold xE
    cases hw : wiE p A E with
    | true => rw [cnN_t hw, if_pos rfl]
    | false => rw [cnN_f hw, if_neg (by decide), Nat.add_zero]
def rowS (x : Nat → Nat) (n v : Nat) : Nat → Nat
  | 0 => 0
  | u + 1 => rowS x n v u + if u ≠ v ∧ u < n then x (pi2 u v) else 0
def colS (x : Nat → Nat) (n : Nat) : Nat → Nat
  | 0 => 0
  | v + 1 => colS x n v + rowS x n v 6
theorem colS_2 (x : Nat → Nat) : colS x 2 2 = 2 * smN x 1 := by
  simp [colS, rowS, pi2, smN]; omega
theorem colS_3 (x : Nat → Nat) : colS x 3 3 = 2 * smN x 3 := by
  simp [colS, rowS, pi2, smN]; omega
theorem colS_4 (x : Nat → Nat) : colS x 4 4 = 2 * smN x 6 := by
  simp [colS, rowS, pi2, smN]; omega
theorem colS_5 (x : Nat → Nat) : colS x 5 5 = 2 * smN x 10 := by
  simp [colS, rowS, pi2, smN]; omega
theorem colS_6 (x : Nat → Nat) : colS x 6 6 = 2 * smN x 15 := by
  simp [colS, rowS, pi2, smN]; omega
theorem colS_all (x : Nat → Nat) {n : Nat} (h2 : 2 ≤ n) (h6 : n ≤ 6) : colS x n n = 2 * smN x (n * (n - 1) / 2) := by
  rcases (show n = 2 ∨ n = 3 ∨ n = 4 ∨ n = 5 ∨ n = 6 by omega) with rfl | rfl | rfl | rfl | rfl
  · exact colS_2 x
  · exact colS_3 x
  · exact colS_4 x
  · exact colS_5 x
  · exact colS_6 x
def odT (p A n : Nat) : Nat → Nat
  | 0 => 0
  | v + 1 => odT p A n v + if A.testBit v = true then pcT (nbT p v n &&& A) 6 else 0
theorem wi_pi {p A u v : Nat} (hu : u < 6) (hv : v < 6) (h : u ≠ v) : wiE p A (pi2 u v) = (p.testBit (pi2 u v) && (A.testBit u && A.testBit v)) := by
  obtain ⟨-, p2⟩ := pi_lo hu hv h
  unfold wiE inE
  rcases p2 with ⟨q1, q2⟩ | ⟨q1, q2⟩
  · rw [q1, q2]
  · rw [q1, q2, Bool.and_comm (A.testBit v)]
theorem row_eq {p A n v : Nat} (hv : v < 6) : ∀ i, i ≤ 6 → (if A.testBit v = true then pcT (nbT p v n &&& A) i else 0) = rowS (xE p A) n v i := by
  intro i
  induction i with
  | zero => intro _; simp [pcT, rowS]
  | succ i ih =>
    intro hi
    have ih := ih (by omega)
    have hx : (if i ≠ v ∧ i < n then xE p A (pi2 i v) else 0) = if A.testBit v = true ∧ (nbT p v n &&& A).testBit i = true then 1 else 0 := by
      rw [Nat.testBit_and, nbT_bit]
      by_cases hc : i ≠ v ∧ i < n
      · rw [if_pos hc]
        unfold xE
        rw [wi_pi (by omega) hv hc.1]
        have : (decide (i < n ∧ i ≠ v ∧ p.testBit (pi2 i v) = true)) = p.testBit (pi2 i v) := by
          cases hb : p.testBit (pi2 i v) with
          | true => exact decide_eq_true ⟨hc.2, hc.1, rfl⟩
          | false => exact decide_eq_false (fun z => by cases z.2.2)
        rw [this]
        cases p.testBit (pi2 i v) <;> cases A.testBit i <;> cases A.testBit v <;> rfl
      · rw [if_neg hc, decide_eq_false (fun z => hc ⟨z.2.1, z.1⟩), Bool.false_and, if_neg (fun z => by cases z.2)]
    simp only [rowS, pcT]
    rw [hx, ← ih]
    cases A.testBit v with
    | true => simp
    | false => simp
theorem odT_col {p A n : Nat} (hn : n ≤ 6) : ∀ v, v ≤ n → odT p A n v = colS (xE p A) n v := by
  intro v
  induction v with
  | zero => intro _; rfl
  | succ v ih =>
    intro hv
    simp only [odT, colS]
    rw [ih (by omega), row_eq (by omega) 6 (Nat.le_refl 6)]
theorem odT_all {p A n : Nat} (h2 : 2 ≤ n) (h6 : n ≤ 6) : odT p A n n = 2 * cnN (wiE p A) (n * (n - 1) / 2) := by
  rw [odT_col h6 n (Nat.le_refl n), colS_all _ h2 h6, cn_sm]
theorem odT_le (p A n : Nat) : ∀ v, odT p A n v ≤ 6 * v := by
  intro v
  induction v with
  | zero => exact Nat.le_refl _
  | succ v ih =>
    simp only [odT]
    have := pcT_le (nbT p v n &&& A) 6
    split <;> omega
def EE (S : Snap) : Nat := S.1 0 * (S.1 0 - 1) / 2
theorem EE_le {S : Snap} (hG : Gs S) : EE S ≤ 15 := by
  have h6 := hG.1
  unfold EE
  rcases (show S.1 0 = 2 ∨ S.1 0 = 3 ∨ S.1 0 = 4 ∨ S.1 0 = 5 ∨ S.1 0 = 6 by omega) with h | h | h | h | h <;> rw [h] <;> decide
theorem lp_within {I : KI} {Q : KQ} {A : Nat} {S : Snap} {post : Int32 → Prop} (hQ : NetQ Q 1) (hN : NetIs I 1 S) (hG : Gs S) (hr : S.1 4 < 2 ^ 31) (hA : A < 2 ^ 6) (hp : post (nI (cnN (wiE (prT S) A) (EE S)))) : ∀ d v, v + d = S.1 0 → wp_X2_within_L4 I Q 1 (nI A) post (d + 1) (nI (odT (prT S) A (S.1 0) v)) (nI v) := by
  have h6 := hG.1
  intro d
  induction d with
  | zero =>
    intro v hv
    have : v = S.1 0 := by omega
    subst this
    have hle := odT_le (prT S) A (S.1 0) (S.1 0)
    unfold wp_X2_within_L4
    rw [show I 1 3 = nI (S.1 0) from hN.1 0 (by omega), show nI (odT (prT S) A (S.1 0) (S.1 0)) / (2 : Int32) = nI (odT (prT S) A (S.1 0) (S.1 0) / 2) from pk_div (d := 2) (by omega) (by decide) (by decide), odT_all h6.1 h6.2, show 2 * cnN (wiE (prT S) A) (S.1 0 * (S.1 0 - 1) / 2) / 2 = cnN (wiE (prT S) A) (EE S) by unfold EE; omega]
    exact br_t (nI_le (Nat.le_refl _) (by omega)) hp
  | succ d ih =>
    intro v hv
    have ih := ih (v + 1) (by omega)
    have h26 : 2 ^ S.1 0 ≤ 2 ^ 6 := Nat.pow_le_pow_right (by omega) h6.2
    have hnb := nbT_lt (prT S) v (S.1 0)
    unfold wp_X2_within_L4
    rw [show I 1 3 = nI (S.1 0) from hN.1 0 (by omega), show I 1 7 = nI (S.1 4) from hN.1 4 (by omega), nI_1]
    refine br_f (nI_ge (by omega) (by omega)) (sp_has (by omega) (by omega) ⟨fun c => ?_, fun c => ?_⟩)
    · have e : odT (prT S) A (S.1 0) (v + 1) = odT (prT S) A (S.1 0) v := by
        simp only [odT]
        rw [if_neg (by rw [(bI_eq _).mp c]; decide)]
        rfl
      rw [show nI (odT (prT S) A (S.1 0) v) + (0 : Int32) = nI (odT (prT S) A (S.1 0) v + 0) from nI_add _ 0, Nat.add_zero, ← e]
      exact ih
    · refine sp_neighbours hQ hN hG hr (by omega) ?_
      have hand : nbT (prT S) v (S.1 0) &&& A ≤ nbT (prT S) v (S.1 0) := Nat.and_le_left
      rw [show nI (nbT (S.2.1 (S.1 4 / S.1 3 % S.1 6)) v (S.1 0)) &&& nI A = nI (nbT (prT S) v (S.1 0) &&& A) from ni_and _ _]
      refine sp_bits (by omega) ?_
      have e : odT (prT S) A (S.1 0) (v + 1) = odT (prT S) A (S.1 0) v + pcT (nbT (prT S) v (S.1 0) &&& A) 6 := by
        simp only [odT]
        rw [if_pos ((bI_ne _).mp c)]
      rw [nI_add, ← e]
      exact ih
theorem sp_within {I : KI} {Q : KQ} {A : Nat} {S : Snap} {post : Int32 → Prop} (hQ : NetQ Q 1) (hN : NetIs I 1 S) (hG : Gs S) (hr : S.1 4 < 2 ^ 31) (hA : A < 2 ^ 6) (hp : post (nI (cnN (wiE (prT S) A) (EE S)))) : wp_X2_within I Q 1 (nI A) post := ⟨S.1 0 + 1, lp_within hQ hN hG hr hA hp (S.1 0) 0 (by omega)⟩
theorem lp_power {a t : Nat} {post : Int64 → Prop} (ha : a < 2 ^ 31) (ht : t < 2 ^ 31) (hp : post (lN (a ^ t))) : ∀ d i, i + d = t → wp_X2_power_L5 (nI a) (nI t) post (d + 1) (lN (a ^ i)) (nI i) := by
  intro d
  induction d with
  | zero =>
    intro i hi
    have : i = t := by omega
    subst this
    unfold wp_X2_power_L5
    exact br_t (nI_le (Nat.le_refl _) (by omega)) hp
  | succ d ih =>
    intro i hi
    unfold wp_X2_power_L5
    rw [nI_l ha, lN_mul, nI_1, ← Nat.pow_succ]
    exact br_f (nI_ge (by omega) (by omega)) (ih (i + 1) (by omega))
theorem sp_power {a t : Nat} {post : Int64 → Prop} (ha : a < 2 ^ 31) (ht : t < 2 ^ 31) (hp : post (lN (a ^ t))) : wp_X2_power (nI a) (nI t) post := ⟨t + 1, lp_power ha ht hp t 0 (by omega)⟩
theorem cn_two {p A B : Nat} (hs : SubN B A) : ∀ e, cnN (wiE p B) e + cnN (wiE p (andn A B)) e ≤ cnN (wiE p A) e := by
  intro e
  induction e with
  | zero => exact Nat.le_refl _
  | succ e ih =>
    cases hb : wiE p B e with
    | true =>
      unfold wiE at hb
      rw [Bool.and_eq_true] at hb
      have h1 : wiE p A e = true := by unfold wiE; rw [hb.1, inE_sub hs hb.2]; rfl
      have h2 : wiE p (andn A B) e = false := by
        unfold wiE
        cases hz : inE (andn A B) e with
        | false => rw [Bool.and_false]
        | true => rw [(in_an hz).2] at hb; cases hb.2
      rw [cnN_t (q := wiE p B) (by unfold wiE; rw [hb.1, hb.2]; rfl), cnN_f h2, cnN_t h1]
      omega
    | false =>
      rw [cnN_f hb]
      cases hz : wiE p (andn A B) e with
      | true =>
        have h1 : wiE p A e = true := by
          unfold wiE at hz ⊢
          rw [Bool.and_eq_true] at hz
          rw [hz.1, (in_an hz.2).1]; rfl
        rw [cnN_t hz, cnN_t h1]
        omega
      | false =>
        rw [cnN_f hz]
        cases h1 : wiE p A e with
        | true => rw [cnN_t h1]; omega
        | false => rw [cnN_f h1]; exact ih
theorem lp_parted {I : KI} {J : KJ} {Q : KQ} {c a : Nat} {S : Snap} {post : Int64 → Prop} (hQ : NetQ Q 1) (h0 : rq Q 272 0 = 273) (hN : NetIs I 1 S) (hG : Gs S) (hr : S.1 4 < 2 ^ 31) (hc : c ≤ 10) (hA : odd a < 2 ^ 6) (hJ : ∀ i, i < a → J 273 (odd i) = lN (whT c (prT S) (EE S) (odd i))) (hp : post (lN (smN (ptN c (prT S) (EE S) (odd a)) a))) : ∀ d i, i + d = a → wp_X2_parted_L6 I J Q 272 1 (nI (odd a)) (nI c) post (d + 1) (lN (smN (ptN c (prT S) (EE S) (odd a)) i)) (nI (odd i)) := by
  intro d
  induction d with
  | zero =>
    intro i hi
    have : i = a := by omega
    subst this
    unfold wp_X2_parted_L6
    exact br_t (nI_le (Nat.le_refl _) (by omega)) hp
  | succ d ih =>
    intro i hi
    have ih := ih (i + 1) (by omega)
    have hlt : odd i < odd a := by unfold odd; omega
    have h2 : nI (odd i) + (2 : Int32) = nI (odd (i + 1)) := nI_add (odd i) 2
    have hE := EE_le hG
    have hcn := cnN_le (wiE (prT S) (odd a)) (EE S)
    simp only [smN] at ih
    unfold wp_X2_parted_L6
    rw [ni_andn, show odd i ^^^ (odd i &&& odd a) = andn (odd i) (odd a) from rfl, ni_andn, show odd a ^^^ (odd a &&& odd i) = andn (odd a) (odd i) from rfl, h2, h0, nI_clamp (n := odd i) (by omega)]
    have han : andn (odd i) (odd a) < 2 ^ 6 := andn_lt (by omega)
    have han2 : andn (odd a) (odd i) < 2 ^ 6 := andn_lt (by omega)
    rw [nI_z (by omega)]
    refine br_f (nI_ge hlt (by omega)) ⟨fun z => ?_, fun z => ?_⟩
    · have e : ptN c (prT S) (EE S) (odd a) i = 0 := by
        unfold ptN
        rw [if_neg]
        unfold subB
        rw [decide_eq_false z]
        decide
      rw [e, Nat.add_zero] at ih
      exact ih
    · have hs : subB (odd i) (odd a) = true := decide_eq_true z
      have hsub := subB_iff.mp hs
      have htw := cn_two (p := prT S) hsub (EE S)
      refine sp_within hQ hN hG hr hA (sp_within hQ hN hG hr (by omega) (sp_within hQ hN hG hr han2 ⟨vp_in_nI (by omega) (by decide), sp_within hQ hN hG hr han2 (sp_power (a := 10) (by decide) (by omega) ?_)⟩))
      rw [pk_sub (by omega), pk_sub (by omega)]
      refine sp_power (by omega) (by omega) ?_
      rw [hJ i (by omega), lN_mul, lN_mul, lN_add]
      have e : ptN c (prT S) (EE S) (odd a) i = whT c (prT S) (EE S) (odd i) * 10 ^ cnN (wiE (prT S) (andn (odd a) (odd i))) (EE S) * c ^ (cnN (wiE (prT S) (odd a)) (EE S) - cnN (wiE (prT S) (odd i)) (EE S) - cnN (wiE (prT S) (andn (odd a) (odd i))) (EE S)) := by
        unfold ptN
        rw [if_pos hs]
      rw [e] at ih
      exact ih
theorem odd_in {n a : Nat} (hn : n ≤ 6) (ha : odd a < 2 ^ n) : ∀ u v, (odd a).testBit u = true → (odd a).testBit v = true → u ≠ v → pi2 u v < n * (n - 1) / 2 := by
  have lt : ∀ w, (odd a).testBit w = true → w < n := fun w hw => Nat.lt_of_not_le (fun q => by
    rw [Nat.testBit_lt_two_pow (Nat.lt_of_lt_of_le ha (Nat.pow_le_pow_right (by omega) q))] at hw
    cases hw)
  exact fun u v hu hv huv => pi2_lt n hn u (lt u hu) v (lt v hv) huv
theorem lp_reckon {I : KI} {Q : KQ} {c : Nat} {S : Snap} {kk : KJ → Prop} (J0 : KJ) (hQ : NetQ Q 1) (h0 : rq Q 272 0 = 273) (hN : NetIs I 1 S) (hG : Gs S) (hr : S.1 4 < 2 ^ 31) (hc : c ≤ 10) (hp : ∀ J, (∀ q, q ≠ 273 → J q = J0 q) → (∀ i, i < 2 ^ (S.1 0 - 1) → J 273 (odd i) = lN (whT c (prT S) (EE S) (odd i))) → kk J) : ∀ d i J, i + d = 2 ^ (S.1 0 - 1) → (∀ q, q ≠ 273 → J q = J0 q) → (∀ j, j < i → J 273 (odd j) = lN (whT c (prT S) (EE S) (odd j))) → wp_X2_reckon_L12 I Q 272 1 (nI c) (nI (2 ^ S.1 0 - 1)) kk (d + 1) J (nI (odd i)) := by
  have h6 := hG.1
  have h26 : 2 ^ S.1 0 ≤ 2 ^ 6 := Nat.pow_le_pow_right (by omega) h6.2
  have h2p : 2 ^ S.1 0 = 2 * 2 ^ (S.1 0 - 1) := by
    obtain ⟨k, hk⟩ : ∃ k, S.1 0 = k + 1 := ⟨S.1 0 - 1, by omega⟩
    rw [hk, Nat.pow_succ, Nat.add_sub_cancel, Nat.mul_comm]
  intro d
  induction d with
  | zero =>
    intro i J hi w1 w2
    have : i = 2 ^ (S.1 0 - 1) := by omega
    subst this
    unfold wp_X2_reckon_L12
    exact br_t (nI_lt (by unfold odd; omega) (by unfold odd; omega)) (hp J w1 w2)
  | succ d ih =>
    intro i J hi w1 w2
    have hodd : odd i < 2 ^ S.1 0 := by unfold odd; omega
    have hE := EE_le hG
    have hcn := cnN_le (wiE (prT S) (odd i)) (EE S)
    unfold wp_X2_reckon_L12
    refine br_f (nI_nlt (by omega) (by omega)) (sp_within hQ hN hG hr (by omega) (sp_power (a := 10) (by decide) (by omega) ?_))
    refine ⟨i + 1, lp_parted hQ h0 hN hG hr hc (by omega) w2 ⟨vp_in_nI (by omega) (by decide), ?_⟩ i 0 (by omega)⟩
    have hw := whole_sum (p := prT S) (c := c) (E := EE S) (a := i) hc hE (by omega) (odd_in h6.2 hodd)
    rw [lN_sub (by omega), show 10 ^ cnN (wiE (prT S) (odd i)) (EE S) - smN (ptN c (prT S) (EE S) (odd i)) i = whT c (prT S) (EE S) (odd i) by omega, h0, nI_clamp (n := odd i) (by omega), show nI (odd i) + (2 : Int32) = nI (odd (i + 1)) from nI_add (odd i) 2]
    refine ih (i + 1) _ (by omega) (fun q hq => by rw [stj_ne _ _ _ hq]; exact w1 q hq) (fun j hj => ?_)
    rw [stj_at]
    by_cases hji : j = i
    · subst hji; rw [pk_uLs]
    · rw [pk_uLn (by unfold odd; omega)]; exact w2 j (by omega)
theorem gcd_half {b r : Nat} (h0 : 0 < r) (hr : r < b) : 2 * (b % r) < b := by
  have h1 := Nat.div_add_mod b r
  have h2 := Nat.mod_lt b h0
  have h3 : 1 ≤ b / r := (Nat.le_div_iff_mul_le h0).mpr (by omega)
  have h4 : r * 1 ≤ r * (b / r) := Nat.mul_le_mul_left r h3
  omega
theorem lp_short {kk : Int64 → Prop} : ∀ k a b i f, b < 2 ^ k → a < 2 ^ 60 → k ≤ 60 → i + 2 * k < 1000 → 2 * k + 1 ≤ f → kk (lN (Nat.gcd a b)) → wp_X2_shorten_L13 kk f (lN a) (lN b) (nI i) := by
  intro k
  induction k with
  | zero =>
    intro a b i f hb ha hk hi hf hp
    have : b = 0 := by omega
    subst this
    obtain ⟨f, rfl⟩ : ∃ f', f = f' + 1 := ⟨f - 1, by omega⟩
    rw [Nat.gcd_zero_right] at hp
    unfold wp_X2_shorten_L13
    refine br_f (nI_ge (b := 1000) (by omega) (by decide)) (br_t ?_ hp)
    rw [lg_cmp_le]
    decide
  | succ k ih =>
    intro a b i f hb ha hk hi hf hp
    obtain ⟨f, rfl⟩ : ∃ f', f = f' + 1 + 1 := ⟨f - 2, by omega⟩
    have hb60 : b < 2 ^ 60 := Nat.lt_of_lt_of_le hb (Nat.pow_le_pow_right (by omega) hk)
    unfold wp_X2_shorten_L13
    refine br_f (nI_ge (b := 1000) (by omega) (by decide)) ?_
    rw [lg_cmp_le, show (0 : Int64) = lN 0 from rfl, pk_lLE (by omega) (by decide), pk_lEQ (by omega) (by decide)]
    by_cases h0 : b = 0
    · rw [h0, Nat.gcd_zero_right] at hp
      exact br_t (by omega) hp
    · have hmod := Nat.mod_lt a (show 0 < b by omega)
      refine br_f (by omega) ⟨h0, ?_⟩
      rw [pk_lRem (by omega) (by omega) (by omega), nI_1]
      unfold wp_X2_shorten_L13
      refine br_f (nI_ge (b := 1000) (by omega) (by decide)) ?_
      rw [lg_cmp_le, show (0 : Int64) = lN 0 from rfl, pk_lLE (by omega) (by decide), pk_lEQ (by omega) (by decide)]
      have hg : Nat.gcd a b = Nat.gcd b (a % b) := by rw [Nat.gcd_comm, Nat.gcd_rec, Nat.gcd_comm]
      rw [hg] at hp
      by_cases h1 : a % b = 0
      · rw [h1, Nat.gcd_zero_right] at hp
        exact br_t (by omega) hp
      · have h2 := gcd_half (b := b) (r := a % b) (by omega) hmod
        refine br_f (by omega) ⟨h1, ?_⟩
        rw [pk_lRem (by omega) (by omega) (by omega), nI_1]
        refine ih (a % b) (b % (a % b)) (i + 1 + 1) f ?_ (by omega) (by omega) (by omega) (by omega) ?_
        · rw [Nat.pow_succ] at hb
          omega
        · have hg2 : Nat.gcd b (a % b) = Nat.gcd (a % b) (b % (a % b)) := by rw [Nat.gcd_comm, Nat.gcd_rec, Nat.gcd_comm]
          rw [hg2] at hp
          exact hp
