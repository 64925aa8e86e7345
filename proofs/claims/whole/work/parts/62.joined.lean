/-! PURE, 25: joined -/
def SubN (a b : Nat) : Prop := ∀ j, a.testBit j = true → b.testBit j = true
theorem SubN.rfl' {a : Nat} : SubN a a := fun _ h => h
theorem SubN.trans {a b c : Nat} (h1 : SubN a b) (h2 : SubN b c) : SubN a c := fun j h => h2 j (h1 j h)
theorem SubN.anti {a b : Nat} (h1 : SubN a b) (h2 : SubN b a) : a = b := by
  apply Nat.eq_of_testBit_eq
  intro j
  cases ha : a.testBit j with
  | true => exact (h1 j ha).symm
  | false =>
    cases hb : b.testBit j with
    | true => rw [h2 j hb] at ha; cases ha
    | false => rfl
theorem SubN.or_l (a b : Nat) : SubN a (a ||| b) := fun j h => by rw [Nat.testBit_or, h]; rfl
theorem SubN.or_r (a b : Nat) : SubN b (a ||| b) := fun j h => by rw [Nat.testBit_or, h, Bool.or_true]
theorem SubN.or_of {a b c : Nat} (h1 : SubN a c) (h2 : SubN b c) : SubN (a ||| b) c := fun j h => by
  rw [Nat.testBit_or, Bool.or_eq_true] at h
  rcases h with h | h
  · exact h1 j h
  · exact h2 j h
theorem SubN.le {a b : Nat} (h : SubN a b) : a ≤ b := Nat.le_of_testBit h
/-- what is met when the nodes below i have been asked, one behind the other -/
def psT (p n m : Nat) : Nat → Nat
  | 0 => m
  | v + 1 => if (psT p n m v).testBit v = true then psT p n m v ||| nbT p v n else psT p n m v
def jnT (p n : Nat) : Nat → Nat
  | 0 => 1
  | i + 1 => psT p n (jnT p n i) n
def joinB (p n : Nat) : Bool := decide (jnT p n (n - 1) = 2 ^ n - 1)
def ClosedP (p n M : Nat) : Prop := ∀ v, v < n → M.testBit v = true → ∀ u, u < n → (nbT p v n).testBit u = true → M.testBit u = true
def JoinedP (p n : Nat) : Prop := ∀ M, ClosedP p n M → M.testBit 0 = true → ∀ v, v < n → M.testBit v = true
theorem psT_step (p n m v : Nat) : SubN (psT p n m v) (psT p n m (v + 1)) := by
  simp only [psT]
  split
  · exact SubN.or_l _ _
  · exact SubN.rfl'
theorem psT_mono (p n m i : Nat) : ∀ d, SubN (psT p n m i) (psT p n m (i + d)) := by
  intro d
  induction d with
  | zero => exact SubN.rfl'
  | succ d ih => exact ih.trans (psT_step p n m (i + d))
theorem psT_sub (p n m i : Nat) : SubN m (psT p n m i) := by
  have := psT_mono p n m 0 i
  rw [Nat.zero_add] at this
  exact this
theorem psT_in {p n m M : Nat} (hc : ClosedP p n M) (h : SubN m M) : ∀ i, i ≤ n → SubN (psT p n m i) M := by
  intro i
  induction i with
  | zero => intro _; exact h
  | succ i ih =>
    intro hi
    have ih := ih (by omega)
    simp only [psT]
    by_cases hb : (psT p n m i).testBit i = true
    · rw [if_pos hb]
      refine SubN.or_of ih (fun j hj => hc i (by omega) (ih i hb) j ?_ hj)
      rw [nbT_bit] at hj
      exact (of_decide_eq_true hj).1
    · rw [if_neg hb]
      exact ih
theorem psT_lt {p n m : Nat} (hm : m < 2 ^ n) : ∀ i, psT p n m i < 2 ^ n := by
  intro i
  induction i with
  | zero => exact hm
  | succ i ih =>
    simp only [psT]
    split
    · exact Nat.or_lt_two_pow ih (nbT_lt p i n)
    · exact ih
theorem psT_fix {p n m : Nat} (h : psT p n m n = m) : ClosedP p n m := by
  intro v hv hb u hu hnb
  have h1 : (psT p n m v).testBit v = true := psT_sub p n m v v hb
  have h2 : (psT p n m (v + 1)).testBit u = true := by
    simp only [psT]
    rw [if_pos h1]
    exact SubN.or_r _ _ u hnb
  obtain ⟨d, hd⟩ : ∃ d, v + 1 + d = n := ⟨n - (v + 1), by omega⟩
  have h3 := psT_mono p n m (v + 1) d u h2
  rw [hd, h] at h3
  exact h3
def pcT (M : Nat) : Nat → Nat
  | 0 => 0
  | v + 1 => pcT M v + if M.testBit v = true then 1 else 0
theorem pcT_le (M : Nat) : ∀ i, pcT M i ≤ i := by
  intro i
  induction i with
  | zero => exact Nat.le_refl _
  | succ i ih => simp only [pcT]; split <;> omega
theorem pcT_mono {M M' : Nat} (h : SubN M M') : ∀ i, pcT M i ≤ pcT M' i := by
  intro i
  induction i with
  | zero => exact Nat.le_refl _
  | succ i ih =>
    simp only [pcT]
    by_cases hb : M.testBit i = true
    · rw [if_pos hb, if_pos (h i hb)]; omega
    · rw [if_neg hb]; omega
theorem pcT_lt {M M' : Nat} (h : SubN M M') : ∀ i v, v < i → M'.testBit v = true → ¬ M.testBit v = true → pcT M i < pcT M' i := by
  intro i
  induction i with
  | zero => intro v hv; exact absurd hv (Nat.not_lt_zero v)
  | succ i ih =>
    intro v hv h1 h2
    simp only [pcT]
    by_cases hvi : v = i
    · subst hvi
      rw [if_pos h1, if_neg h2]
      have := pcT_mono h v
      omega
    · have := ih v (by omega) h1 h2
      by_cases hb : M.testBit i = true
      · rw [if_pos hb, if_pos (h i hb)]; omega
      · rw [if_neg hb]; omega
theorem pcT_pos {M : Nat} : ∀ i v, v < i → M.testBit v = true → 1 ≤ pcT M i := by
  intro i
  induction i with
  | zero => intro v hv; exact absurd hv (Nat.not_lt_zero v)
  | succ i ih =>
    intro v hv h1
    simp only [pcT]
    by_cases hvi : v = i
    · subst hvi
      rw [if_pos h1]
      omega
    · have := ih v (by omega) h1
      omega
theorem pcT_full {M : Nat} : ∀ i, i ≤ pcT M i → ∀ v, v < i → M.testBit v = true := by
  intro i
  induction i with
  | zero => intro _ v hv; exact absurd hv (Nat.not_lt_zero v)
  | succ i ih =>
    intro h v hv
    have hle := pcT_le M i
    simp only [pcT] at h
    by_cases hb : M.testBit i = true
    · rw [if_pos hb] at h
      by_cases hvi : v = i
      · subst hvi; exact hb
      · exact ih (by omega) v (by omega)
    · rw [if_neg hb] at h
      omega
theorem all_bits {M n : Nat} (hM : M < 2 ^ n) : M = 2 ^ n - 1 ↔ ∀ v, v < n → M.testBit v = true := by
  constructor
  · intro h v hv
    rw [h, Nat.testBit_two_pow_sub_one]
    exact decide_eq_true hv
  · intro h
    apply Nat.eq_of_testBit_eq
    intro j
    rw [Nat.testBit_two_pow_sub_one]
    by_cases hj : j < n
    · rw [h j hj]; exact (decide_eq_true hj).symm
    · rw [decide_eq_false hj]
      exact Nat.testBit_lt_two_pow (Nat.lt_of_lt_of_le hM (Nat.pow_le_pow_right (by omega) (by omega)))
theorem jnT_ok {p n : Nat} (h1 : 1 ≤ n) : ∀ i, jnT p n i < 2 ^ n ∧ (jnT p n i).testBit 0 = true ∧ (∀ M, ClosedP p n M → M.testBit 0 = true → SubN (jnT p n i) M) ∧ (ClosedP p n (jnT p n i) ∨ i + 1 ≤ pcT (jnT p n i) n) := by
  intro i
  induction i with
  | zero =>
    have hp : 2 ^ 1 ≤ 2 ^ n := Nat.pow_le_pow_right (by omega) h1
    refine ⟨by show 1 < 2 ^ n; omega, (show (1 : Nat).testBit 0 = true by decide), fun M _ h0 j hj => ?_, Or.inr (pcT_pos n 0 (by omega) (show (1 : Nat).testBit 0 = true by decide))⟩
    have : j = 0 := Nat.testBit_one_eq_true_iff_self_eq_zero.mp hj
    rw [this]
    exact h0
  | succ i ih =>
    obtain ⟨q1, q2, q3, q4⟩ := ih
    have hlt := psT_lt (p := p) q1 n
    have hsub := psT_sub p n (jnT p n i) n
    refine ⟨hlt, hsub 0 q2, fun M hc h0 => psT_in hc (q3 M hc h0) n (Nat.le_refl n), ?_⟩
    show ClosedP p n (psT p n (jnT p n i) n) ∨ i + 1 + 1 ≤ pcT (psT p n (jnT p n i) n) n
    by_cases he : psT p n (jnT p n i) n = jnT p n i
    · left
      have := psT_fix he
      rw [he]
      exact this
    · rcases q4 with q4 | q4
      · exact absurd (SubN.anti (psT_in q4 SubN.rfl' n (Nat.le_refl n)) hsub) he
      · right
        have hex : ∃ v, v < n ∧ (psT p n (jnT p n i) n).testBit v = true ∧ ¬ (jnT p n i).testBit v = true := by
          apply Classical.byContradiction
          intro hno
          apply he
          refine SubN.anti (fun j hj => ?_) hsub
          apply Classical.byContradiction
          intro hj2
          refine hno ⟨j, ?_, hj, hj2⟩
          apply Nat.lt_of_not_le
          intro hnj
          rw [Nat.testBit_lt_two_pow (Nat.lt_of_lt_of_le hlt (Nat.pow_le_pow_right (by omega) hnj))] at hj
          cases hj
        obtain ⟨v, v1, v2, v3⟩ := hex
        have := pcT_lt hsub n v v1 v2 v3
        omega
theorem jn_closed {p n : Nat} (h1 : 1 ≤ n) : ClosedP p n (jnT p n (n - 1)) := by
  rcases (jnT_ok (p := p) h1 (n - 1)).2.2.2 with h | h
  · exact h
  · have := pcT_full n (by omega : n ≤ pcT (jnT p n (n - 1)) n)
    exact fun v _ _ u hu _ => this u hu
theorem joinB_iff {p n : Nat} (h1 : 1 ≤ n) : joinB p n = true ↔ JoinedP p n := by
  obtain ⟨q1, q2, q3, -⟩ := jnT_ok (p := p) h1 (n - 1)
  unfold joinB
  rw [decide_eq_true_iff, all_bits q1]
  constructor
  · intro h M hc h0 v hv
    exact q3 M hc h0 v (h v hv)
  · intro h
    exact h _ (jn_closed h1) q2
theorem JoinedP.mono {p q n : Nat} (h : SubN p q) (hj : JoinedP p n) : JoinedP q n := by
  intro M hc h0
  refine hj M (fun v hv hb u hu hnb => hc v hv hb u hu ?_) h0
  rw [nbT_bit] at hnb ⊢
  have := of_decide_eq_true hnb
  exact decide_eq_true ⟨this.1, this.2.1, h _ this.2.2⟩
theorem ms_pass {p n : Nat} {kk : Int32 → Int32 → Prop} (hn : n ≤ 6) (hp15 : p < 2 ^ 15) (m : Nat) (hm : m < 2 ^ n) (hp : kk (nI (psT p n m n)) (bI (decide (psT p n m n ≠ m)))) : ∀ d v, v + d = n → wp_X11_areJoined_L23 (nI p) (nI n) kk (d + 1) (nI (psT p n m v)) (bI (decide (psT p n m v ≠ m))) (nI v) := by
  have h26 : 2 ^ n ≤ 2 ^ 6 := Nat.pow_le_pow_right (by omega) hn
  intro d
  induction d with
  | zero =>
    intro v hv
    have : v = n := by omega
    subst this
    unfold wp_X11_areJoined_L23
    exact br_t (nI_le (Nat.le_refl _) (by omega)) hp
  | succ d ih =>
    intro v hv
    have ih := ih (v + 1) (by omega)
    have hlt := psT_lt (p := p) hm v
    have hnb := nbT_lt p v n
    have hz : nI (psT p n m v) ||| (0 : Int32) = nI (psT p n m v) := by
      rw [show (0 : Int32) = nI 0 from rfl, ni_or, Nat.or_zero]
    unfold wp_X11_areJoined_L23
    rw [nI_1, hz]
    refine br_f (nI_ge (by omega) (by omega)) (ms_has (by omega) (by omega) ⟨fun c => ?_, fun c => ?_⟩)
    · have hb := (bI_eq _).mp c
      have e : psT p n m (v + 1) = psT p n m v := by simp only [psT]; rw [if_neg (by rw [hb]; decide)]
      rw [e] at ih
      refine ⟨fun c2 => ?_, fun c2 => ⟨fun _ => ?_, fun c3 => absurd ?_ c3⟩⟩
      · rw [(bI_ne _).mp c2] at ih; exact ih
      · rw [(bI_eq _).mp c2] at ih; exact ih
      · rw [show (0 : Int32) = nI 0 from rfl, ni_andn, Nat.zero_and]; rfl
    · have hb := (bI_ne _).mp c
      have e : psT p n m (v + 1) = psT p n m v ||| nbT p v n := by simp only [psT]; rw [if_pos hb]
      refine ms_linkedBy hn (by omega) (by omega) ?_
      rw [ni_or, ← e, ni_andn]
      have ha : nI (nbT p v n ^^^ (nbT p v n &&& psT p n m v)) = 0 ↔ psT p n m (v + 1) = psT p n m v := by
        rw [nI_z (Nat.lt_trans (show nbT p v n ^^^ (nbT p v n &&& psT p n m v) < 2 ^ n from andn_lt hnb) (by omega)), e]
        constructor
        · intro h
          refine SubN.anti (SubN.or_of SubN.rfl' (fun j hj => ?_)) (SubN.or_l _ _)
          have h2 := xz h
          have h3 := congrArg (fun z => z.testBit j) h2
          simp only [Nat.testBit_and, hj, Bool.true_and] at h3
          exact h3.symm
        · intro h
          have hs : SubN (nbT p v n) (psT p n m v) := by
            have := SubN.or_r (psT p n m v) (nbT p v n)
            rw [h] at this
            exact this
          have : nbT p v n &&& psT p n m v = nbT p v n := by
            apply Nat.eq_of_testBit_eq
            intro j
            rw [Nat.testBit_and]
            cases hj : (nbT p v n).testBit j with
            | true => rw [hs j hj]; rfl
            | false => rfl
          rw [this, Nat.xor_self]
      rw [ha]
      have s1 := psT_sub p n m v
      have s2 := psT_step p n m v
      refine ⟨fun c2 => ?_, fun c2 => ⟨fun c3 => ?_, fun c3 => ?_⟩⟩
      · have h1 := of_decide_eq_true ((bI_ne _).mp c2)
        have h2 : psT p n m (v + 1) ≠ m := fun z => h1 (SubN.anti (fun j hj => by have := s2 j hj; rw [z] at this; exact this) s1)
        rw [decide_eq_true h2] at ih
        exact ih
      · have h1 := of_decide_eq_false ((bI_eq _).mp c2)
        rw [c3, (bI_eq _).mp c2] at ih
        rw [c3]
        exact ih
      · have h1 : psT p n m v = m := Classical.byContradiction (fun z => of_decide_eq_false ((bI_eq _).mp c2) z)
        have h2 : psT p n m (v + 1) ≠ m := fun z => c3 (by rw [z, h1])
        rw [decide_eq_true h2] at ih
        exact ih
theorem lp_areJoined {p n : Nat} {kk : Int32 → Prop} (hn : n ≤ 6) (hp15 : p < 2 ^ 15) (hp : ∀ m, m < 2 ^ n → m.testBit 0 = true → (∀ M, ClosedP p n M → M.testBit 0 = true → SubN m M) → ClosedP p n m → kk (nI m)) : ∀ d m, 2 ^ n ≤ m + d → m < 2 ^ n → m.testBit 0 = true → (∀ M, ClosedP p n M → M.testBit 0 = true → SubN m M) → wp_X11_areJoined_L12 (nI p) (nI n) kk (d + 2) (nI m) 1 := by
  intro d
  induction d with
  | zero => intro m h1 h2; omega
  | succ d ih =>
    intro m h1 h2 h3 h4
    unfold wp_X11_areJoined_L12
    refine ⟨fun c => absurd c (by decide), fun _ => ⟨n + 1, ?_⟩⟩
    have hs := psT_sub p n m n
    have hst : bI (decide (psT p n m 0 ≠ m)) = 0 := by
      have : decide (psT p n m 0 ≠ m) = false := decide_eq_false (fun z => z rfl)
      rw [this]; rfl
    have := ms_pass hn hp15 m h2 (kk := fun x3_14 x4_14 => wp_X11_areJoined_L12 (nI p) (nI n) kk (d + 2) x3_14 x4_14) ?_ n 0 (by omega)
    · rw [hst] at this
      exact this
    · by_cases he : psT p n m n = m
      · have : decide (psT p n m n ≠ m) = false := decide_eq_false (fun z => z he)
        rw [this, he]
        unfold wp_X11_areJoined_L12
        exact ⟨fun _ => hp m h2 h3 h4 (psT_fix he), fun c => absurd rfl c⟩
      · rw [decide_eq_true he]
        have hle := hs.le
        exact ih _ (by omega) (psT_lt h2 n) (hs 0 h3) (fun M hc h0 => psT_in hc (h4 M hc h0) n (Nat.le_refl n))
theorem ms_areJoined {I : KI} {Q : KQ} {p n : Nat} {post : Int32 → Prop} (hM : MdQ Q) (h0 : I 288 0 = nI n) (h1 : 1 ≤ n) (hn : n ≤ 6) (hp15 : p < 2 ^ 15) (hp : post (bI (joinB p n))) : wp_X11_areJoined I Q 287 (nI p) post := by
  have h26 : 2 ^ n ≤ 2 ^ 6 := Nat.pow_le_pow_right (by omega) hn
  have h2 : 2 ^ 1 ≤ 2 ^ n := Nat.pow_le_pow_right (by omega) h1
  unfold wp_X11_areJoined
  rw [hM.now, tc0, h0, ni_shl1 n (by omega), show nI (2 ^ n) - (1 : Int32) = nI (2 ^ n - 1) from pk_sub (a := 2 ^ n) (b := 1) (by omega)]
  refine ⟨2 ^ n + 2, lp_areJoined hn hp15 (fun m m1 m2 m3 m4 => ?_) (2 ^ n) 1 (by omega) (by omega) rfl (fun M _ hb j hj => ?_)⟩
  · rw [nI_eq (by omega) (by omega)]
    have hiff : m = 2 ^ n - 1 ↔ joinB p n = true := by
      rw [joinB_iff h1, all_bits m1]
      exact ⟨fun h M hc hb v hv => m3 M hc hb v (h v hv), fun h => h m m4 m2⟩
    refine ⟨fun c => ?_, fun c => ?_⟩
    · cases hb : joinB p n with
      | true => exact absurd (hiff.mpr hb) c
      | false => rw [hb] at hp; exact hp
    · rw [hiff.mp c] at hp; exact hp
  · have : j = 0 := Nat.testBit_one_eq_true_iff_self_eq_zero.mp hj
    rw [this]
    exact hb
/-! the class's way -/
theorem lp_joins14 {I : KI} {Q : KQ} {P i p n m : Nat} {kk : Int32 → Prop} (hn : n ≤ 6) (hi : i < 8) (hm : m < 2 ^ n) (hR : RowL (I (rq Q P 0)) i p n) (hp : kk (nI (psT p n m n))) : ∀ d v, v + d = n → wp_X4_joins_L14 I Q P (nI i) (nI n) kk (d + 1) (nI (psT p n m v)) (nI v) := by
  have h26 : 2 ^ n ≤ 2 ^ 6 := Nat.pow_le_pow_right (by omega) hn
  intro d
  induction d with
  | zero =>
    intro v hv
    have : v = n := by omega
    subst this
    unfold wp_X4_joins_L14
    exact br_t (nI_le (Nat.le_refl _) (by omega)) hp
  | succ d ih =>
    intro v hv
    have ih := ih (v + 1) (by omega)
    have hlt := psT_lt (p := p) hm v
    unfold wp_X4_joins_L14
    rw [nI_1]
    refine br_f (nI_ge (by omega) (by omega)) (sp_has (by omega) (by omega) ⟨fun c => ?_, fun c => ?_⟩)
    · have e : psT p n m (v + 1) = psT p n m v := by simp only [psT]; rw [if_neg (by rw [(bI_eq _).mp c]; decide)]
      rw [show (0 : Int32) = nI 0 from rfl, ni_or, Nat.or_zero, ← e]
      exact ih
    · have e : psT p n m (v + 1) = psT p n m v ||| nbT p v n := by simp only [psT]; rw [if_pos ((bI_ne _).mp c)]
      refine sp_of hi (by omega) ?_
      rw [hR v (by omega), ni_or, ← e]
      exact ih
theorem lp_joins5 {I : KI} {Q : KQ} {P i p n : Nat} {kk : Int32 → Prop} (hn : n ≤ 6) (h1 : 1 ≤ n) (hi : i < 8) (hR : RowL (I (rq Q P 0)) i p n) (hp : kk (nI (jnT p n (n - 1)))) : ∀ d s, s + 1 + d = n → wp_X4_joins_L5 I Q P (nI i) (nI n) kk (d + 1) (nI (jnT p n s)) (nI (s + 1)) := by
  intro d
  induction d with
  | zero =>
    intro s hs
    have e : s = n - 1 := by omega
    unfold wp_X4_joins_L5
    rw [e]
    exact br_t (nI_le (by omega) (by omega)) hp
  | succ d ih =>
    intro s hs
    unfold wp_X4_joins_L5
    refine br_f (nI_ge (by omega) (by omega)) ⟨n + 1, lp_joins14 hn hi (jnT_ok h1 s).1 hR ?_ n 0 (by omega)⟩
    rw [nI_1]
    exact ih (s + 1) (by omega)
theorem sp_joins {I : KI} {Q : KQ} {P i p n : Nat} {post : Int32 → Prop} (hn : n ≤ 6) (h1 : 1 ≤ n) (hi : i < 8) (hR : RowL (I (rq Q P 0)) i p n) (hp : post (bI (joinB p n))) : wp_X4_joins I Q P (nI i) (nI n) post := by
  have h26 : 2 ^ n ≤ 2 ^ 6 := Nat.pow_le_pow_right (by omega) hn
  have h2 : 2 ^ 1 ≤ 2 ^ n := Nat.pow_le_pow_right (by omega) h1
  have hj := (jnT_ok (p := p) h1 (n - 1)).1
  unfold wp_X4_joins
  rw [ni_shl1 n (by omega), show nI (2 ^ n) - (1 : Int32) = nI (2 ^ n - 1) from pk_sub (a := 2 ^ n) (b := 1) (by omega)]
  refine ⟨n - 1 + 1, lp_joins5 hn h1 hi hR ?_ (n - 1) 0 (by omega)⟩
  rw [nI_eq (by omega) (by omega)]
  unfold joinB at hp
  refine ⟨fun c => ?_, fun c => ?_⟩
  · rw [decide_eq_false c] at hp; exact hp
  · rw [decide_eq_true c] at hp; exact hp
