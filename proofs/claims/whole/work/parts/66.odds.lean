/-! PURE, 29: odds -/
noncomputable def ind (P : Prop) : Nat := @ite Nat P (Classical.propDecidable P) 1 0
theorem ind_t {P : Prop} (h : P) : ind P = 1 := if_pos h
theorem ind_f {P : Prop} (h : ¬ P) : ind P = 0 := if_neg h
theorem ind_le (P : Prop) : ind P ≤ 1 := by
  by_cases h : P
  · rw [ind_t h]; exact Nat.le_refl _
  · rw [ind_f h]; exact Nat.zero_le _
theorem ind_c {P Q : Prop} (h : P ↔ Q) : ind P = ind Q := by
  by_cases hq : Q
  · rw [ind_t hq, ind_t (h.mpr hq)]
  · rw [ind_f hq, ind_f (fun z => hq (h.mp z))]
/-- the sum over the parts of a set of links, each with its odds -/
def rS (c : Nat) (q : Nat → Bool) : Nat → (Nat → Nat) → Nat
  | 0, f => f 0
  | e + 1, f => match q e with
    | true => (10 - c) * rS c q e (fun l => f (l ||| 2 ^ e)) + c * rS c q e f
    | false => rS c q e f
theorem rS_t {c e : Nat} {q : Nat → Bool} (h : q e = true) (f : Nat → Nat) : rS c q (e + 1) f = (10 - c) * rS c q e (fun l => f (l ||| 2 ^ e)) + c * rS c q e f := by simp only [rS, h]
theorem rS_f {c e : Nat} {q : Nat → Bool} (h : q e = false) (f : Nat → Nat) : rS c q (e + 1) f = rS c q e f := by simp only [rS, h]
theorem or_lt {l e : Nat} (h : l < 2 ^ e) : l ||| 2 ^ e < 2 ^ (e + 1) := Nat.or_lt_two_pow (Nat.lt_of_lt_of_le h (Nat.pow_le_pow_right (by omega) (by omega))) (Nat.pow_lt_pow_right (by omega) (by omega))
theorem lt_s1 {l e : Nat} (h : l < 2 ^ e) : l < 2 ^ (e + 1) := Nat.lt_of_lt_of_le h (Nat.pow_le_pow_right (by omega) (by omega))
theorem rS_congr {c : Nat} {q q' : Nat → Bool} : ∀ e (f g : Nat → Nat), (∀ i, i < e → q i = q' i) → (∀ l, l < 2 ^ e → f l = g l) → rS c q e f = rS c q' e g := by
  intro e
  induction e with
  | zero => intro f g _ h; exact h 0 (by decide)
  | succ e ih =>
    intro f g hq h
    have h0 := ih f g (fun i hi => hq i (by omega)) (fun l hl => h l (lt_s1 hl))
    have h1 := ih (fun l => f (l ||| 2 ^ e)) (fun l => g (l ||| 2 ^ e)) (fun i hi => hq i (by omega)) (fun l hl => h _ (or_lt hl))
    have hqe := hq e (by omega)
    cases hb : q e with
    | true => rw [rS_t hb, rS_t (hqe ▸ hb), h0, h1]
    | false => rw [rS_f hb, rS_f (hqe ▸ hb), h0]
theorem rS_zero (c : Nat) (q : Nat → Bool) : ∀ e, rS c q e (fun _ => 0) = 0 := by
  intro e
  induction e with
  | zero => rfl
  | succ e ih =>
    cases hb : q e with
    | true => rw [rS_t hb, ih]; rfl
    | false => rw [rS_f hb, ih]
theorem rS_add (c : Nat) (q : Nat → Bool) : ∀ e (f g : Nat → Nat), rS c q e (fun l => f l + g l) = rS c q e f + rS c q e g := by
  intro e
  induction e with
  | zero => intro f g; rfl
  | succ e ih =>
    intro f g
    cases hb : q e with
    | true =>
      rw [rS_t hb, rS_t hb, rS_t hb, ih f g, ih (fun l => f (l ||| 2 ^ e)) (fun l => g (l ||| 2 ^ e)), Nat.mul_add, Nat.mul_add]
      omega
    | false => rw [rS_f hb, rS_f hb, rS_f hb, ih]
theorem rS_le (c : Nat) (q : Nat → Bool) : ∀ e (f g : Nat → Nat), (∀ l, f l ≤ g l) → rS c q e f ≤ rS c q e g := by
  intro e
  induction e with
  | zero => intro f g h; exact h 0
  | succ e ih =>
    intro f g h
    cases hb : q e with
    | true =>
      rw [rS_t hb, rS_t hb]
      exact Nat.add_le_add (Nat.mul_le_mul_left _ (ih _ _ (fun l => h _))) (Nat.mul_le_mul_left _ (ih _ _ h))
    | false => rw [rS_f hb, rS_f hb]; exact ih _ _ h
/-- how many links of a kind there are -/
def cnN (q : Nat → Bool) : Nat → Nat
  | 0 => 0
  | e + 1 => cnN q e + if q e = true then 1 else 0
theorem cnN_t {q : Nat → Bool} {e : Nat} (h : q e = true) : cnN q (e + 1) = cnN q e + 1 := by simp [cnN, h]
theorem cnN_f {q : Nat → Bool} {e : Nat} (h : q e = false) : cnN q (e + 1) = cnN q e := by simp [cnN, h]
theorem cnN_le (q : Nat → Bool) : ∀ e, cnN q e ≤ e := by
  intro e
  induction e with
  | zero => exact Nat.le_refl _
  | succ e ih => simp only [cnN]; split <;> omega
theorem cnN_congr {q q' : Nat → Bool} : ∀ e, (∀ i, i < e → q i = q' i) → cnN q e = cnN q' e := by
  intro e
  induction e with
  | zero => intro _; rfl
  | succ e ih =>
    intro h
    simp only [cnN]
    rw [ih (fun i hi => h i (by omega)), h e (by omega)]
theorem rS_one {c : Nat} (hc : c ≤ 10) (q : Nat → Bool) : ∀ e, rS c q e (fun _ => 1) = 10 ^ cnN q e := by
  intro e
  induction e with
  | zero => rfl
  | succ e ih =>
    simp only [cnN]
    cases hb : q e with
    | true =>
      rw [rS_t hb, ih, if_pos rfl, Nat.pow_succ, ← Nat.add_mul, show 10 - c + c = 10 by omega, Nat.mul_comm]
    | false => rw [rS_f hb, ih, if_neg (by decide), Nat.add_zero]
def nK (K : Nat → Nat) (l : Nat) : Nat → Bool
  | 0 => true
  | e + 1 => nK K l e && !(decide (K e = 2) && l.testBit e)
theorem nK_iff (K : Nat → Nat) (l : Nat) : ∀ e, nK K l e = true ↔ ∀ i, i < e → K i = 2 → l.testBit i = false := by
  intro e
  induction e with
  | zero => exact ⟨fun _ i hi => absurd hi (Nat.not_lt_zero i), fun _ => rfl⟩
  | succ e ih =>
    simp only [nK, Bool.and_eq_true, ih]
    constructor
    · rintro ⟨h1, h2⟩ i hi hk
      by_cases hie : i = e
      · subst hie
        rw [decide_eq_true hk, Bool.true_and] at h2
        simpa using h2
      · exact h1 i (by omega) hk
    · intro h
      refine ⟨fun i hi => h i (by omega), ?_⟩
      by_cases hk : K e = 2
      · rw [h e (by omega) hk, Bool.and_false]; rfl
      · rw [decide_eq_false hk, Bool.false_and]; rfl
theorem tb_or (l e i : Nat) (h : i ≠ e) : (l ||| 2 ^ e).testBit i = l.testBit i := by
  rw [Nat.testBit_or, Nat.testBit_two_pow, decide_eq_false (fun z => h z.symm), Bool.or_false]
theorem tb_or_s (l e : Nat) : (l ||| 2 ^ e).testBit e = true := by
  rw [Nat.testBit_or, Nat.testBit_two_pow, decide_eq_true rfl, Bool.or_true]
theorem nK_or (K : Nat → Nat) (l e : Nat) : nK K (l ||| 2 ^ e) (e + 1) = (nK K l e && !decide (K e = 2)) := by
  simp only [nK]
  rw [tb_or_s, Bool.and_true]
  congr 1
  rw [Bool.eq_iff_iff, nK_iff, nK_iff]
  exact ⟨fun h i hi hk => by rw [← tb_or l e i (by omega)]; exact h i hi hk, fun h i hi hk => by rw [tb_or l e i (by omega)]; exact h i hi hk⟩
theorem nK_lo (K : Nat → Nat) {l e : Nat} (hl : l < 2 ^ e) : nK K l (e + 1) = nK K l e := by
  simp only [nK]
  rw [Nat.testBit_lt_two_pow hl, Bool.and_false]
  simp
/-- links of three kinds: 1 matters to f, 2 must not be there, others are free -/
theorem rS_three {c : Nat} (hc : c ≤ 10) (q : Nat → Bool) (K : Nat → Nat) : ∀ e (f : Nat → Nat), (∀ l l', (∀ i, K i = 1 → l.testBit i = l'.testBit i) → f l = f l') → rS c q e (fun l => if nK K l e = true then f l else 0) = rS c (fun i => q i && decide (K i = 1)) e f * 10 ^ cnN (fun i => q i && (decide (K i ≠ 1) && decide (K i ≠ 2))) e * c ^ cnN (fun i => q i && decide (K i = 2)) e := by
  intro e
  induction e with
  | zero => intro f _; show (if true = true then f 0 else 0) = f 0 * 1 * 1; rw [if_pos rfl]; omega
  | succ e ih =>
    intro f hf
    have e0 : rS c q e (fun l => if nK K l (e + 1) = true then f l else 0) = rS c q e (fun l => if nK K l e = true then f l else 0) := rS_congr e _ _ (fun _ _ => rfl) (fun l hl => by rw [nK_lo K hl])
    have i0 := ih f hf
    cases hb : q e with
    | false =>
      rw [rS_f hb, rS_f (q := fun i => q i && decide (K i = 1)) (show (q e && decide (K e = 1)) = false by rw [hb]; rfl), e0, i0, cnN_f (q := fun i => q i && (decide (K i ≠ 1) && decide (K i ≠ 2))) (show (q e && (decide (K e ≠ 1) && decide (K e ≠ 2))) = false by rw [hb]; rfl), cnN_f (q := fun i => q i && decide (K i = 2)) (show (q e && decide (K e = 2)) = false by rw [hb]; rfl)]
    | true =>
      rw [rS_t hb, e0]
      by_cases h2 : K e = 2
      · have e1 : rS c q e (fun l => if nK K (l ||| 2 ^ e) (e + 1) = true then f (l ||| 2 ^ e) else 0) = 0 := by
          refine (rS_congr e _ (fun _ => 0) (fun _ _ => rfl) (fun l _ => ?_)).trans (rS_zero c q e)
          have : nK K (l ||| 2 ^ e) (e + 1) = false := by rw [nK_or, decide_eq_true h2, Bool.not_true, Bool.and_false]
          rw [this, if_neg (by decide)]
        have hk1 : (q e && decide (K e = 1)) = false := by rw [decide_eq_false (show ¬ K e = 1 by omega), Bool.and_false]
        have hk3 : (q e && (decide (K e ≠ 1) && decide (K e ≠ 2))) = false := by rw [decide_eq_false (show ¬ K e ≠ 2 from fun z => z h2), Bool.and_false, Bool.and_false]
        have hk2 : (q e && decide (K e = 2)) = true := by rw [hb, decide_eq_true h2]; rfl
        rw [e1, rS_f (q := fun i => q i && decide (K i = 1)) hk1, i0, cnN_f (q := fun i => q i && (decide (K i ≠ 1) && decide (K i ≠ 2))) hk3, cnN_t (q := fun i => q i && decide (K i = 2)) hk2, Nat.pow_succ, Nat.mul_zero, Nat.zero_add, Nat.mul_comm c, Nat.mul_assoc]
      · have e1 : rS c q e (fun l => if nK K (l ||| 2 ^ e) (e + 1) = true then f (l ||| 2 ^ e) else 0) = rS c q e (fun l => if nK K l e = true then f (l ||| 2 ^ e) else 0) := by
          refine rS_congr e _ _ (fun _ _ => rfl) (fun l _ => ?_)
          have : nK K (l ||| 2 ^ e) (e + 1) = nK K l e := by rw [nK_or, decide_eq_false h2, Bool.not_false, Bool.and_true]
          rw [this]
        have hk2 : (q e && decide (K e = 2)) = false := by rw [decide_eq_false h2, Bool.and_false]
        by_cases h1 : K e = 1
        · have i1 := ih (fun l => f (l ||| 2 ^ e)) (fun l l' h => hf _ _ (fun i hi => by
            by_cases hie : i = e
            · subst hie; rw [tb_or_s, tb_or_s]
            · rw [tb_or _ _ _ hie, tb_or _ _ _ hie]; exact h i hi))
          have hk3 : (q e && (decide (K e ≠ 1) && decide (K e ≠ 2))) = false := by rw [decide_eq_false (show ¬ K e ≠ 1 from fun z => z h1), Bool.false_and, Bool.and_false]
          have hk1 : (q e && decide (K e = 1)) = true := by rw [hb, decide_eq_true h1]; rfl
          rw [e1, rS_t (q := fun i => q i && decide (K i = 1)) hk1, i0, i1, cnN_f (q := fun i => q i && (decide (K i ≠ 1) && decide (K i ≠ 2))) hk3, cnN_f (q := fun i => q i && decide (K i = 2)) hk2, Nat.add_mul, Nat.add_mul, Nat.mul_assoc (10 - c), Nat.mul_assoc (10 - c), Nat.mul_assoc c, Nat.mul_assoc c]
        · have e2 : rS c q e (fun l => if nK K l e = true then f (l ||| 2 ^ e) else 0) = rS c q e (fun l => if nK K l e = true then f l else 0) := by
            refine rS_congr e _ _ (fun _ _ => rfl) (fun l _ => ?_)
            rw [hf (l ||| 2 ^ e) l (fun i hi => tb_or _ _ _ (fun z => h1 (by rw [← z]; exact hi)))]
          have hk1 : (q e && decide (K e = 1)) = false := by rw [decide_eq_false h1, Bool.and_false]
          have hk3 : (q e && (decide (K e ≠ 1) && decide (K e ≠ 2))) = true := by rw [hb, decide_eq_true h1, decide_eq_true h2]; rfl
          rw [e1, e2, rS_f (q := fun i => q i && decide (K i = 1)) hk1, i0, cnN_t (q := fun i => q i && (decide (K i ≠ 1) && decide (K i ≠ 2))) hk3, cnN_f (q := fun i => q i && decide (K i = 2)) hk2, ← Nat.add_mul, show 10 - c + c = 10 by omega, Nat.pow_succ]
          rw [← Nat.mul_assoc, ← Nat.mul_assoc, Nat.mul_comm 10, Nat.mul_assoc _ 10, Nat.mul_comm 10]
/-! parts of nodes -/
def lkd (l u v : Nat) : Prop := u ≠ v ∧ l.testBit (pi2 u v) = true
theorem lkd.symm {l u v : Nat} (h : lkd l u v) : lkd l v u := ⟨fun z => h.1 z.symm, by rw [pi2_c]; exact h.2⟩
def ClIn (l A M : Nat) : Prop := SubN M A ∧ ∀ v, M.testBit v = true → ∀ u, A.testBit u = true → lkd l u v → M.testBit u = true
def JnIn (l B : Nat) : Prop := ∀ M, ClIn l B M → M.testBit 0 = true → SubN B M
def Cmp (l A B : Nat) : Prop := SubN B A ∧ B.testBit 0 = true ∧ JnIn l B ∧ ∀ v, B.testBit v = true → ∀ u, A.testBit u = true → B.testBit u = false → ¬ lkd l u v
theorem Cmp.one {l A B C : Nat} (h1 : Cmp l A B) (h2 : Cmp l A C) : SubN B C := by
  obtain ⟨a1, a2, a3, a4⟩ := h1
  obtain ⟨b1, b2, b3, b4⟩ := h2
  have := a3 (B &&& C) ⟨fun j hj => by rw [Nat.testBit_and, Bool.and_eq_true] at hj; exact hj.1, fun v hv u hu hl => by
    rw [Nat.testBit_and, Bool.and_eq_true] at hv ⊢
    refine ⟨hu, ?_⟩
    cases hc : C.testBit u with
    | true => rfl
    | false => exact absurd hl (b4 v hv.2 u (a1 u hu) hc)⟩ (by rw [Nat.testBit_and, a2, b2]; rfl)
  intro j hj
  have := this j hj
  rw [Nat.testBit_and, Bool.and_eq_true] at this
  exact this.2
theorem Cmp.ex {l A : Nat} (h0 : A.testBit 0 = true) : ∃ B, Cmp l A B := by
  have hA : ClIn l A A := ⟨SubN.rfl', fun v _ u hu _ => hu⟩
  obtain ⟨B, ⟨hB, hB0⟩, hmin⟩ := pk_least (fun M => ClIn l A M ∧ M.testBit 0 = true) ⟨A, hA, h0⟩
  refine ⟨B, hB.1, hB0, fun M hM hM0 => ?_, fun v hv u hu hno hl => ?_⟩
  · have hc : ClIn l A M := ⟨hM.1.trans hB.1, fun v hv u hu hl => hM.2 v hv u (hB.2 v (hM.1 v hv) u hu hl) hl⟩
    have hle := hM.1.le
    have hge : ¬ M < B := fun z => hmin M z ⟨hc, hM0⟩
    have : M = B := by omega
    rw [this]
    exact SubN.rfl'
  · rw [hB.2 v hv u hu hl] at hno
    cases hno
theorem lo_hi : ∀ e, e < 15 → pi2 (loE e) (hiE e) = e ∧ loE e ≠ hiE e ∧ loE e < 6 ∧ hiE e < 6 := by decide +kernel
theorem pi_loA : ∀ c, c < 36 → c / 6 ≠ c % 6 → pi2 (c / 6) (c % 6) < 15 ∧ ((loE (pi2 (c / 6) (c % 6)) = c / 6 ∧ hiE (pi2 (c / 6) (c % 6)) = c % 6) ∨ (loE (pi2 (c / 6) (c % 6)) = c % 6 ∧ hiE (pi2 (c / 6) (c % 6)) = c / 6)) := by decide +kernel
theorem pi_lo {u v : Nat} (hu : u < 6) (hv : v < 6) (h : u ≠ v) : pi2 u v < 15 ∧ ((loE (pi2 u v) = u ∧ hiE (pi2 u v) = v) ∨ (loE (pi2 u v) = v ∧ hiE (pi2 u v) = u)) := by
  have h2 := pi_loA (6 * u + v) (by omega)
  rw [show (6 * u + v) / 6 = u by omega, show (6 * u + v) % 6 = v by omega] at h2
  exact h2 h
def inE (A e : Nat) : Bool := A.testBit (loE e) && A.testBit (hiE e)
def wiE (p A e : Nat) : Bool := p.testBit e && inE A e
def kdE (A B e : Nat) : Nat := if inE B e = true then 1 else if inE A e = true ∧ inE (andn A B) e = false then 2 else 0
noncomputable def whT (c p E A : Nat) : Nat := rS c (wiE p A) E (fun l => ind (JnIn l A))
theorem JnIn.dep {l l' B : Nat} (hB : B < 2 ^ 6) (h : ∀ i, inE B i = true → l.testBit i = l'.testBit i) (hj : JnIn l B) : JnIn l' B := by
  intro M hM h0
  refine hj M ⟨hM.1, fun v hv u hu hl => hM.2 v hv u hu ⟨hl.1, ?_⟩⟩ h0
  have lt6 : ∀ w, B.testBit w = true → w < 6 := fun w hw => Nat.lt_of_not_le (fun q => by
    rw [Nat.testBit_lt_two_pow (Nat.lt_of_lt_of_le hB (Nat.pow_le_pow_right (by omega) q))] at hw
    cases hw)
  have hv' := hM.1 v hv
  obtain ⟨p1, p2⟩ := pi_lo (lt6 u hu) (lt6 v hv') hl.1
  rw [← h (pi2 u v) ?_]
  · exact hl.2
  · unfold inE
    rcases p2 with ⟨q1, q2⟩ | ⟨q1, q2⟩
    · rw [q1, q2, hu, hv']; rfl
    · rw [q1, q2, hu, hv']; rfl
theorem inE_sub {A B e : Nat} (h : SubN B A) (hb : inE B e = true) : inE A e = true := by
  unfold inE at hb ⊢
  rw [Bool.and_eq_true] at hb ⊢
  exact ⟨h _ hb.1, h _ hb.2⟩
theorem in_an {A B e : Nat} (hb : inE (andn A B) e = true) : inE A e = true ∧ inE B e = false := by
  unfold inE at hb ⊢
  rw [Bool.and_eq_true, andn_bit, andn_bit, Bool.and_eq_true, Bool.and_eq_true] at hb
  obtain ⟨⟨h1, h2⟩, h3, h4⟩ := hb
  refine ⟨by rw [h1, h3]; rfl, ?_⟩
  have : B.testBit (loE e) = false := by simpa using h2
  rw [this]
  rfl
theorem part_term {c p E A B : Nat} (hc : c ≤ 10) (hE : E ≤ 15) (hA : A < 2 ^ 6) (hEA : ∀ u v, A.testBit u = true → A.testBit v = true → u ≠ v → pi2 u v < E) (hs : SubN B A) (h0 : B.testBit 0 = true) : rS c (wiE p A) E (fun l => ind (Cmp l A B)) = whT c p E B * 10 ^ cnN (wiE p (andn A B)) E * c ^ (cnN (wiE p A) E - cnN (wiE p B) E - cnN (wiE p (andn A B)) E) := by
  have hB : B < 2 ^ 6 := Nat.lt_of_le_of_lt hs.le hA
  have lt6 : ∀ w, A.testBit w = true → w < 6 := fun w hw => Nat.lt_of_not_le (fun q => by
    rw [Nat.testBit_lt_two_pow (Nat.lt_of_lt_of_le hA (Nat.pow_le_pow_right (by omega) q))] at hw
    cases hw)
  have h3 := rS_three hc (wiE p A) (kdE A B) E (fun l => ind (JnIn l B)) (fun l l' h => by
    have hk : ∀ i, inE B i = true → l.testBit i = l'.testBit i := fun i hi => h i (by unfold kdE; rw [if_pos hi])
    exact ind_c ⟨JnIn.dep hB hk, JnIn.dep hB (fun i hi => (hk i hi).symm)⟩)
  have e1 : rS c (wiE p A) E (fun l => ind (Cmp l A B)) = rS c (wiE p A) E (fun l => if nK (kdE A B) l E = true then ind (JnIn l B) else 0) := by
    refine rS_congr E _ _ (fun _ _ => rfl) (fun l _ => ?_)
    have hno : nK (kdE A B) l E = true ↔ ∀ v, B.testBit v = true → ∀ u, A.testBit u = true → B.testBit u = false → ¬ lkd l u v := by
      rw [nK_iff]
      constructor
      · intro h v hv u hu hbu hl
        have hva := hs v hv
        have hlt := hEA u v hu hva hl.1
        obtain ⟨-, p2⟩ := pi_lo (lt6 u hu) (lt6 v hva) hl.1
        have := h (pi2 u v) hlt (by
          have k1 : inE B (pi2 u v) = false := by
            unfold inE
            rcases p2 with ⟨q1, q2⟩ | ⟨q1, q2⟩ <;> rw [q1, q2, hbu] <;> simp
          have k2 : inE A (pi2 u v) = true := by
            unfold inE
            rcases p2 with ⟨q1, q2⟩ | ⟨q1, q2⟩ <;> rw [q1, q2, hu, hva] <;> rfl
          have k3 : inE (andn A B) (pi2 u v) = false := by
            unfold inE
            rcases p2 with ⟨q1, q2⟩ | ⟨q1, q2⟩ <;> rw [q1, q2, andn_bit, andn_bit, hv] <;> simp
          unfold kdE
          rw [if_neg (by rw [k1]; decide), if_pos ⟨k2, k3⟩])
        rw [hl.2] at this
        cases this
      · intro h e he hk
        cases hle : l.testBit e with
        | false => rfl
        | true =>
          exfalso
          obtain ⟨g1, g2, g3, g4⟩ := lo_hi e (by omega)
          have hk1 : ¬ inE B e = true := fun z => by unfold kdE at hk; rw [if_pos z] at hk; cases hk
          have hk2 : inE A e = true ∧ inE (andn A B) e = false := by
            apply Classical.byContradiction
            intro z
            unfold kdE at hk
            rw [if_neg hk1, if_neg z] at hk
            cases hk
          obtain ⟨k2, k3⟩ := hk2
          unfold inE at hk1 k2 k3
          rw [andn_bit, andn_bit] at k3
          rw [Bool.and_eq_true] at k2
          have hl1 : lkd l (loE e) (hiE e) := ⟨g2, by rw [g1]; exact hle⟩
          cases b1 : B.testBit (loE e) with
          | true =>
            cases b2 : B.testBit (hiE e) with
            | true => exact hk1 (by rw [b1, b2]; rfl)
            | false => exact h (loE e) b1 (hiE e) k2.2 b2 hl1.symm
          | false =>
            cases b2 : B.testBit (hiE e) with
            | true => exact h (hiE e) b2 (loE e) k2.1 b1 hl1
            | false => rw [k2.1, k2.2, b1, b2] at k3; cases k3
    by_cases hn : nK (kdE A B) l E = true
    · rw [if_pos hn]
      exact ind_c ⟨fun z => z.2.2.1, fun z => ⟨hs, h0, z, hno.mp hn⟩⟩
    · rw [if_neg hn]
      exact ind_f (fun z => hn (hno.mpr z.2.2.2))
  have q1 : ∀ i, (wiE p A i && decide (kdE A B i = 1)) = wiE p B i := fun i => by
    unfold wiE kdE
    by_cases hb : inE B i = true
    · rw [if_pos hb, hb, inE_sub hs hb]; simp
    · have hb' : inE B i = false := by simpa using hb
      rw [if_neg hb, hb', Bool.and_false]
      by_cases hc2 : inE A i = true ∧ inE (andn A B) i = false
      · rw [if_pos hc2]; simp
      · rw [if_neg hc2]; simp
  have q2 : ∀ i, (wiE p A i && (decide (kdE A B i ≠ 1) && decide (kdE A B i ≠ 2))) = wiE p (andn A B) i := fun i => by
    unfold wiE kdE
    by_cases hb : inE B i = true
    · have : inE (andn A B) i = false := by
        cases hz : inE (andn A B) i with
        | false => rfl
        | true => rw [(in_an hz).2] at hb; cases hb
      rw [if_pos hb, this]; simp
    · rw [if_neg hb]
      by_cases hc2 : inE A i = true ∧ inE (andn A B) i = false
      · rw [if_pos hc2, hc2.2]; simp
      · rw [if_neg hc2]
        cases hz : inE (andn A B) i with
        | true => rw [(in_an hz).1]; simp
        | false =>
          have : inE A i = false := by
            cases hy : inE A i with
            | false => rfl
            | true => exact absurd ⟨hy, hz⟩ hc2
          rw [this]; simp
  have hcount : ∀ e, cnN (wiE p A) e = cnN (wiE p B) e + cnN (wiE p (andn A B)) e + cnN (fun i => wiE p A i && decide (kdE A B i = 2)) e := by
    intro e
    induction e with
    | zero => rfl
    | succ e ih =>
      have h1 := q1 e
      have h2 := q2 e
      cases hw : wiE p A e with
      | false =>
        rw [hw, Bool.false_and] at h1 h2
        rw [cnN_f hw, cnN_f h1.symm, cnN_f h2.symm, cnN_f (q := fun i => wiE p A i && decide (kdE A B i = 2)) (by rw [hw]; rfl)]
        exact ih
      | true =>
        rw [hw, Bool.true_and] at h1 h2
        have hk : kdE A B e = 1 ∨ kdE A B e = 2 ∨ kdE A B e = 0 := by
          unfold kdE
          split
          · exact Or.inl rfl
          · split
            · exact Or.inr (Or.inl rfl)
            · exact Or.inr (Or.inr rfl)
        rcases hk with hk | hk | hk
        · rw [hk] at h1 h2
          rw [cnN_t hw, cnN_t h1.symm, cnN_f h2.symm, cnN_f (q := fun i => wiE p A i && decide (kdE A B i = 2)) (by rw [hk, Bool.and_eq_false_iff]; exact Or.inr rfl)]
          omega
        · rw [hk] at h1 h2
          rw [cnN_t hw, cnN_f h1.symm, cnN_f h2.symm, cnN_t (q := fun i => wiE p A i && decide (kdE A B i = 2)) (by rw [hk, hw]; rfl)]
          omega
        · rw [hk] at h1 h2
          rw [cnN_t hw, cnN_f h1.symm, cnN_t h2.symm, cnN_f (q := fun i => wiE p A i && decide (kdE A B i = 2)) (by rw [hk, Bool.and_eq_false_iff]; exact Or.inr rfl)]
          omega
  rw [e1, h3]
  have w1 : rS c (fun i => wiE p A i && decide (kdE A B i = 1)) E (fun l => ind (JnIn l B)) = whT c p E B := rS_congr E _ _ (fun i _ => q1 i) (fun _ _ => rfl)
  have w2 := cnN_congr (q := fun i => wiE p A i && (decide (kdE A B i ≠ 1) && decide (kdE A B i ≠ 2))) (q' := wiE p (andn A B)) E (fun i _ => q2 i)
  have w3 : cnN (wiE p A) E - cnN (wiE p B) E - cnN (wiE p (andn A B)) E = cnN (fun i => wiE p A i && decide (kdE A B i = 2)) E := by
    have := hcount E
    omega
  rw [w1, w2, w3]
