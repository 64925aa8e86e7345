/-! PURE, 30: odds by the part that node 0 is joined to -/
def smN (f : Nat → Nat) : Nat → Nat
  | 0 => 0
  | i + 1 => smN f i + f i
theorem smN_congr {f g : Nat → Nat} : ∀ n, (∀ i, i < n → f i = g i) → smN f n = smN g n := by
  intro n
  induction n with
  | zero => intro _; rfl
  | succ n ih =>
    intro h
    simp only [smN]
    rw [ih (fun i hi => h i (by omega)), h n (by omega)]
theorem smN_zero {f : Nat → Nat} : ∀ n, (∀ i, i < n → f i = 0) → smN f n = 0 := by
  intro n
  induction n with
  | zero => intro _; rfl
  | succ n ih =>
    intro h
    simp only [smN]
    rw [ih (fun i hi => h i (by omega)), h n (by omega)]
theorem smN_one {f : Nat → Nat} : ∀ n k, k < n → f k = 1 → (∀ i, i < n → i ≠ k → f i = 0) → smN f n = 1 := by
  intro n
  induction n with
  | zero => intro k hk; exact absurd hk (Nat.not_lt_zero k)
  | succ n ih =>
    intro k hk h1 h0
    simp only [smN]
    by_cases hkn : k = n
    · subst hkn
      rw [smN_zero k (fun i hi => h0 i (by omega) (by omega)), h1]
    · rw [ih k (by omega) h1 (fun i hi hne => h0 i (by omega) hne), h0 n (by omega) (fun z => hkn z.symm)]
theorem rS_sum (c : Nat) (q : Nat → Bool) (e : Nat) (g : Nat → Nat → Nat) : ∀ n, rS c q e (fun l => smN (fun i => g i l) n) = smN (fun i => rS c q e (g i)) n := by
  intro n
  induction n with
  | zero => exact rS_zero c q e
  | succ n ih =>
    simp only [smN]
    rw [rS_add c q e (fun l => smN (fun i => g i l) n) (fun l => g n l), ih]
/-- the part that has node 0 and is told by a number -/
def odd (i : Nat) : Nat := 2 * i + 1
theorem odd_0 (i : Nat) : (odd i).testBit 0 = true := by
  unfold odd
  rw [Nat.testBit_zero]
  exact decide_eq_true (by omega)
theorem of_odd {A : Nat} (h : A.testBit 0 = true) : A = odd (A / 2) := by
  rw [Nat.testBit_zero] at h
  have := of_decide_eq_true h
  unfold odd
  omega
def subB (a b : Nat) : Bool := decide (andn a b = 0)
theorem subB_iff {a b : Nat} : subB a b = true ↔ SubN a b := by
  unfold subB
  rw [decide_eq_true_iff]
  constructor
  · intro h j hj
    have := congrArg (fun z => z.testBit j) h
    simp only [andn_bit, hj, Nat.zero_testBit, Bool.true_and] at this
    simpa using this
  · intro h
    apply Nat.eq_of_testBit_eq
    intro j
    rw [andn_bit, Nat.zero_testBit]
    cases ha : a.testBit j with
    | true => rw [h j ha]; rfl
    | false => rfl
/-- what a part adds to how likely a set isn't joined -/
noncomputable def ptN (c p E A i : Nat) : Nat := if subB (odd i) A = true then whT c p E (odd i) * 10 ^ cnN (wiE p (andn A (odd i))) E * c ^ (cnN (wiE p A) E - cnN (wiE p (odd i)) E - cnN (wiE p (andn A (odd i))) E) else 0
theorem andn_self (A : Nat) : andn A A = 0 := by
  apply Nat.eq_of_testBit_eq
  intro j
  rw [andn_bit, Nat.zero_testBit]
  cases A.testBit j <;> rfl
theorem cnN_none {q : Nat → Bool} : ∀ e, (∀ i, q i = false) → cnN q e = 0 := by
  intro e
  induction e with
  | zero => intro _; rfl
  | succ e ih => intro h; rw [cnN_f (h e)]; exact ih h
theorem whole_sum {c p E a : Nat} (hc : c ≤ 10) (hE : E ≤ 15) (hA : odd a < 2 ^ 6) (hEA : ∀ u v, (odd a).testBit u = true → (odd a).testBit v = true → u ≠ v → pi2 u v < E) : 10 ^ cnN (wiE p (odd a)) E = smN (ptN c p E (odd a)) a + whT c p E (odd a) := by
  have h1 := rS_one hc (wiE p (odd a)) E
  have h2 : rS c (wiE p (odd a)) E (fun _ => 1) = rS c (wiE p (odd a)) E (fun l => smN (fun i => if subB (odd i) (odd a) = true then ind (Cmp l (odd a) (odd i)) else 0) (a + 1)) := by
    refine rS_congr E _ _ (fun _ _ => rfl) (fun l _ => ?_)
    obtain ⟨B, hB⟩ := Cmp.ex (l := l) (odd_0 a)
    have hb := of_odd hB.2.1
    rw [hb] at hB
    have hle := hB.1.le
    refine (smN_one (a + 1) (B / 2) (by unfold odd at hle; omega) ?_ (fun i _ hne => ?_)).symm
    · rw [if_pos (subB_iff.mpr hB.1), ind_t hB]
    · by_cases hs : subB (odd i) (odd a) = true
      · rw [if_pos hs]
        refine ind_f (fun hz => hne ?_)
        have := SubN.anti (Cmp.one hz hB) (Cmp.one hB hz)
        unfold odd at this
        omega
      · rw [if_neg hs]
  have h3 : ∀ i, rS c (wiE p (odd a)) E (fun l => if subB (odd i) (odd a) = true then ind (Cmp l (odd a) (odd i)) else 0) = ptN c p E (odd a) i := fun i => by
    unfold ptN
    by_cases hs : subB (odd i) (odd a) = true
    · rw [if_pos hs]
      refine (rS_congr E _ _ (fun _ _ => rfl) (fun l _ => ?_)).trans (part_term hc hE hA hEA (subB_iff.mp hs) (odd_0 i))
      rw [if_pos hs]
    · rw [if_neg hs]
      refine (rS_congr E _ _ (fun _ _ => rfl) (fun l _ => ?_)).trans (rS_zero c _ E)
      rw [if_neg hs]
  have h4 : ptN c p E (odd a) a = whT c p E (odd a) := by
    unfold ptN
    rw [if_pos (subB_iff.mpr SubN.rfl'), andn_self]
    have e0 : cnN (wiE p 0) E = 0 := cnN_none E (fun i => by unfold wiE inE; rw [Nat.zero_testBit]; simp)
    rw [e0, show cnN (wiE p (odd a)) E - cnN (wiE p (odd a)) E - 0 = 0 by omega]
    simp
  rw [← h1, h2, rS_sum]
  have h5 : smN (fun i => rS c (wiE p (odd a)) E (fun l => if subB (odd i) (odd a) = true then ind (Cmp l (odd a) (odd i)) else 0)) (a + 1) = smN (ptN c p E (odd a)) (a + 1) := smN_congr (a + 1) (fun i _ => h3 i)
  rw [h5]
  simp only [smN]
  rw [h4]
/-! all nodes -/
theorem wi_all {p n E : Nat} (hn : n ≤ 6) (hE : E = n * (n - 1) / 2) : ∀ i, i < E → wiE p (2 ^ n - 1) i = p.testBit i := by
  have hA : ∀ n, n ≤ 6 → ∀ i, i < n * (n - 1) / 2 → inE (2 ^ n - 1) i = true := by decide +kernel
  intro i hi
  unfold wiE
  rw [hA n hn i (by omega), Bool.and_true]
theorem jn_all {l n : Nat} (h1 : 1 ≤ n) : JnIn l (2 ^ n - 1) ↔ joinB l n = true := by
  rw [joinB_iff h1]
  have hb : ∀ j, (2 ^ n - 1).testBit j = true ↔ j < n := fun j => by rw [Nat.testBit_two_pow_sub_one, decide_eq_true_iff]
  constructor
  · intro h M hM h0 v hv
    have := h (M &&& (2 ^ n - 1)) ⟨fun j hj => by rw [Nat.testBit_and, Bool.and_eq_true] at hj; exact hj.2, fun v hv u hu hl => by
      rw [Nat.testBit_and, Bool.and_eq_true] at hv ⊢
      refine ⟨hM v ((hb v).mp hv.2) hv.1 u ((hb u).mp hu) ?_, hu⟩
      rw [nbT_bit]
      exact decide_eq_true ⟨(hb u).mp hu, hl.1, hl.2⟩⟩ (by rw [Nat.testBit_and, h0, (hb 0).mpr (by omega)]; rfl) v ((hb v).mpr hv)
    rw [Nat.testBit_and, Bool.and_eq_true] at this
    exact this.1
  · intro h M hM h0 v hv
    refine h M (fun v hv hbv u hu hnb => ?_) h0 v ((hb v).mp hv)
    rw [nbT_bit] at hnb
    have hnb := of_decide_eq_true hnb
    exact hM.2 v hbv u ((hb u).mpr hu) ⟨hnb.2.1, hnb.2.2⟩
/-- what the reference adds up -/
def byT (c p l : Nat) : Nat → Nat
  | 0 => 1
  | k + 1 => byT c p l k * (if p.testBit k = true then (if l.testBit k = true then 10 - c else c) else 1)
theorem byT_congr {c p : Nat} {l l' : Nat} : ∀ e, (∀ i, i < e → l.testBit i = l'.testBit i) → byT c p l e = byT c p l' e := by
  intro e
  induction e with
  | zero => intro _; rfl
  | succ e ih =>
    intro h
    simp only [byT]
    rw [ih (fun i hi => h i (by omega)), h e (by omega)]
theorem smN_add (f : Nat → Nat) (a : Nat) : ∀ b, smN f (a + b) = smN f a + smN (fun i => f (a + i)) b := by
  intro b
  induction b with
  | zero => rfl
  | succ b ih =>
    show smN f (a + b) + f (a + b) = _
    simp only [smN]
    rw [ih]
    omega
theorem smN_mul (f : Nat → Nat) (k : Nat) : ∀ n, smN (fun i => k * f i) n = k * smN f n := by
  intro n
  induction n with
  | zero => rfl
  | succ n ih => simp only [smN]; rw [ih, Nat.mul_add]
def subE (l p : Nat) : Nat → Bool
  | 0 => true
  | e + 1 => subE l p e && (!l.testBit e || p.testBit e)
theorem subE_congr {l l' p : Nat} : ∀ e, (∀ i, i < e → l.testBit i = l'.testBit i) → subE l p e = subE l' p e := by
  intro e
  induction e with
  | zero => intro _; rfl
  | succ e ih =>
    intro h
    simp only [subE]
    rw [ih (fun i hi => h i (by omega)), h e (by omega)]
theorem or_add {l e : Nat} (h : l < 2 ^ e) : l ||| 2 ^ e = 2 ^ e + l := by
  have := Nat.two_pow_add_eq_or_of_lt h 1
  rw [Nat.mul_one] at this
  rw [this, Nat.or_comm]
theorem rS_is {c p : Nat} : ∀ E (f : Nat → Nat), smN (fun l => if subE l p E = true then byT c p l E * f l else 0) (2 ^ E) = rS c (fun i => p.testBit i) E f := by
  intro E
  induction E with
  | zero =>
    intro f
    show 0 + (if true = true then 1 * f 0 else 0) = f 0
    rw [if_pos rfl]
    omega
  | succ E ih =>
    intro f
    rw [Nat.pow_succ, Nat.mul_two, smN_add]
    have i0 := ih f
    have i1 := ih (fun l => f (l ||| 2 ^ E))
    have lo : ∀ l, l < 2 ^ E → (if subE l p (E + 1) = true then byT c p l (E + 1) * f l else 0) = (if p.testBit E = true then c else 1) * (if subE l p E = true then byT c p l E * f l else 0) := fun l hl => by
      have hb : l.testBit E = false := Nat.testBit_lt_two_pow hl
      have e1 : subE l p (E + 1) = subE l p E := by simp only [subE]; rw [hb]; simp
      have e2 : byT c p l (E + 1) = (if p.testBit E = true then c else 1) * byT c p l E := by
        simp only [byT]
        rw [Nat.mul_comm]
        congr 1
        by_cases hp : p.testBit E = true
        · rw [if_pos hp, if_pos hp, if_neg (by rw [hb]; decide)]
        · rw [if_neg hp, if_neg hp]
      rw [e1, e2]
      by_cases hs : subE l p E = true
      · rw [if_pos hs, if_pos hs, Nat.mul_assoc]
      · rw [if_neg hs, if_neg hs, Nat.mul_zero]
    have hi : ∀ l, l < 2 ^ E → (if subE (2 ^ E + l) p (E + 1) = true then byT c p (2 ^ E + l) (E + 1) * f (2 ^ E + l) else 0) = (if p.testBit E = true then 10 - c else 0) * (if subE l p E = true then byT c p l E * f (l ||| 2 ^ E) else 0) := fun l hl => by
      rw [← or_add hl]
      have hb := tb_or_s l E
      have hlow : ∀ i, i < E → (l ||| 2 ^ E).testBit i = l.testBit i := fun i hi => tb_or l E i (by omega)
      have e1 : subE (l ||| 2 ^ E) p (E + 1) = (subE l p E && p.testBit E) := by
        simp only [subE]
        rw [hb, subE_congr E hlow]
        simp
      have e2 : byT c p (l ||| 2 ^ E) (E + 1) = byT c p l E * (if p.testBit E = true then 10 - c else 1) := by
        simp only [byT]
        rw [byT_congr E hlow, if_pos hb]
      rw [e1, e2]
      cases hp : p.testBit E with
      | true =>
        rw [Bool.and_true, if_pos rfl]
        by_cases hs : subE l p E = true
        · rw [if_pos hs, if_pos hs, if_pos rfl, Nat.mul_comm (byT c p l E), Nat.mul_assoc]
        · rw [if_neg hs, if_neg hs, Nat.mul_zero]
      | false =>
        rw [Bool.and_false, if_neg (by decide), if_neg (by decide), Nat.zero_mul]
    rw [smN_congr (2 ^ E) lo, smN_mul, i0, smN_congr (f := fun l => if subE (2 ^ E + l) p (E + 1) = true then byT c p (2 ^ E + l) (E + 1) * f (2 ^ E + l) else 0) (2 ^ E) hi, smN_mul, i1]
    cases hp : p.testBit E with
    | true =>
      rw [rS_t (q := fun i => p.testBit i) hp, if_pos rfl, if_pos rfl]
      omega
    | false =>
      rw [rS_f (q := fun i => p.testBit i) hp, if_neg (by decide), if_neg (by decide)]
      omega
noncomputable def abN (c p n E : Nat) : Nat := smN (fun l => if subE l p E = true then byT c p l E * (if joinB l n = true then 1 else 0) else 0) (2 ^ E)
theorem ab_eq {c p n E : Nat} (h1 : 1 ≤ n) (hn : n ≤ 6) (hE : E = n * (n - 1) / 2) : abN c p n E = whT c p E (2 ^ n - 1) := by
  unfold abN whT
  rw [rS_is]
  refine rS_congr E _ _ (fun i hi => (wi_all hn hE i hi).symm) (fun l _ => ?_)
  rw [ind_c (jn_all h1)]
  by_cases hj : joinB l n = true
  · rw [if_pos hj, ind_t hj]
  · rw [if_neg hj, ind_f hj]
theorem wh_le {c p E A : Nat} (hc : c ≤ 10) : whT c p E A ≤ 10 ^ cnN (wiE p A) E := by
  rw [← rS_one hc]
  exact rS_le _ _ _ _ _ (fun l => ind_le _)
