/-! PURE, 26: trees by their codes -/
def lfT (D : Nat → Nat) (n i : Nat) : Nat := fstT (fun v => decide (D v = 1)) (n - i) i
def cnD (D : Nat → Nat) (a b : Nat) : Nat → Nat := upk (upk D a (D a - 1)) b (upk D a (D a - 1) b - 1)
def dgT (n : Nat) : Nat → Nat → (Nat → Nat) → Nat → Nat
  | 0, _, D => D
  | d + 1, l, D => dgT n d (l / n) (upk D (l % n) (D (l % n) + 1))
def twT (n : Nat) : Nat → (Nat → Nat) → Nat → Nat → (Nat → Nat) × Nat
  | 0, D, p, _ => (D, p)
  | d + 1, D, p, l => twT n d (cnD D (lfT D n 0) (l % n)) (p ||| 2 ^ pi2 (lfT D n 0) (l % n)) (l / n)
def twB (n : Nat) : Nat → (Nat → Nat) → Nat → Bool
  | 0, D, _ => decide (lfT D n 0 < n) && decide (lfT D n (lfT D n 0 + 1) < n)
  | d + 1, D, l => decide (lfT D n 0 < n) && (decide (lfT D n 0 ≠ l % n) && (decide (1 ≤ D (l % n)) && twB n d (cnD D (lfT D n 0) (l % n)) (l / n)))
def tlD (n c : Nat) : (Nat → Nat) × Nat := twT n (n - 2) (dgT n (n - 2) c (fun _ => 1)) 0 c
def tlF (s : (Nat → Nat) × Nat) (n : Nat) : Nat := s.2 ||| 2 ^ pi2 (lfT s.1 n 0) (lfT s.1 n (lfT s.1 n 0 + 1))
def tlT (n c : Nat) : Nat := tlF (tlD n c) n
def allQ (p : Nat → Bool) : Nat → Nat → Bool
  | 0, _ => true
  | d + 1, i => match p i with
    | true => allQ p d (i + 1)
    | false => false
theorem allQ_t {p : Nat → Bool} : ∀ d i, allQ p d i = true → ∀ j, i ≤ j → j < i + d → p j = true := by
  intro d
  induction d with
  | zero => intro i _ j h1 h2; omega
  | succ d ih =>
    intro i h j h1 h2
    simp only [allQ] at h
    cases hp : p i with
    | true =>
      rw [hp] at h
      by_cases hj : j = i
      · subst hj; exact hp
      · exact ih (i + 1) h j (by omega) (by omega)
    | false =>
      rw [hp] at h
      cases h
def tlB (n c : Nat) : Bool := twB n (n - 2) (dgT n (n - 2) c (fun _ => 1)) c && (joinB (tlT n c) n && (allQ (fun v => decide (nbT (tlT n c) v n ≠ 0)) n 0 && decide (tlT n c < 2 ^ (n * (n - 1) / 2))))
theorem tl_2 : allQ (tlB 2) 1 0 = true := by decide +kernel
theorem tl_3 : allQ (tlB 3) 3 0 = true := by decide +kernel
theorem tl_4 : allQ (tlB 4) 16 0 = true := by decide +kernel
theorem tl_5 : allQ (tlB 5) 125 0 = true := by decide +kernel
theorem tl_6 : allQ (tlB 6) 1296 0 = true := by decide +kernel
theorem tl_all {n c : Nat} (h2 : 2 ≤ n) (h6 : n ≤ 6) (hc : c < n ^ (n - 2)) : tlB n c = true := by
  rcases (show n = 2 ∨ n = 3 ∨ n = 4 ∨ n = 5 ∨ n = 6 by omega) with rfl | rfl | rfl | rfl | rfl
  · exact allQ_t _ _ tl_2 c (Nat.zero_le c) (by simpa using hc)
  · exact allQ_t _ _ tl_3 c (Nat.zero_le c) (by simpa using hc)
  · exact allQ_t _ _ tl_4 c (Nat.zero_le c) (by simpa using hc)
  · exact allQ_t _ _ tl_5 c (Nat.zero_le c) (by simpa using hc)
  · exact allQ_t _ _ tl_6 c (Nat.zero_le c) (by simpa using hc)
/-- the code of a tree, found -/
def enS (n p m a : Nat) (f : Nat → Nat → Nat) : Nat := m * Nat.log2 (nbT p a n) + f (p ^^^ 2 ^ pi2 a (Nat.log2 (nbT p a n))) (m * n)
def enT (n : Nat) : Nat → Nat → Nat → Nat
  | 0, _, _ => 0
  | d + 1, p, m => enS n p m (fstT (fun v => decide (nbT p v n ≠ 0) && decide (nbT p v n &&& (nbT p v n - 1) = 0)) n 0) (fun q k => enT n d q k)
def leB (n low up : Nat) : Bool := (decide (enT n (n - 2) low 1 < n ^ (n - 2)) && decide (tlT n (enT n (n - 2) low 1) = low)) || !joinB up n
/-- which nodes a link joins -/
def loE (e : Nat) : Nat := if e < 1 then 0 else if e < 3 then e - 1 else if e < 6 then e - 3 else if e < 10 then e - 6 else e - 10
def hiE (e : Nat) : Nat := if e < 1 then 1 else if e < 3 then 2 else if e < 6 then 3 else if e < 10 then 4 else 5
/-- the name of each node's part, 3 bits a node; m: the parts so far -/
def prE (m v : Nat) : Nat := m / 8 ^ v % 8
def jnE (m a b : Nat) : Nat → Nat
  | 0 => 0
  | v + 1 => jnE m a b v + 8 ^ v * (if prE m v = a then b else prE m v)
def ckT (n : Nat) : Nat → Nat → Nat → Nat → Nat → Bool
  | 0, _, _, low, up => leB n low up
  | d + 1, e, m, low, up => match decide (prE m (loE e) = prE m (hiE e)) with
    | true => ckT n d (e + 1) m low up
    | false => match ckT n d (e + 1) (jnE m (prE m (loE e)) (prE m (hiE e)) n) (low ||| 2 ^ e) up with
      | true => ckT n d (e + 1) m low (up ^^^ 2 ^ e)
      | false => false
theorem ck_2 : ckT 2 1 0 8 0 1 = true := by decide +kernel
theorem ck_3 : ckT 3 3 0 136 0 7 = true := by decide +kernel
theorem ck_4 : ckT 4 6 0 1672 0 63 = true := by decide +kernel
theorem ck_5 : ckT 5 10 0 18056 0 1023 = true := by decide +kernel
theorem ck_6 : ckT 6 15 0 181896 0 32767 = true := by decide +kernel
theorem ckT_ok {n p : Nat} (h1 : 1 ≤ n) (hj : joinB p n = true) : ∀ d e m low up, ckT n d e m low up = true → SubN low p → SubN p up → ∃ c, c < n ^ (n - 2) ∧ SubN (tlT n c) p := by
  intro d
  induction d with
  | zero =>
    intro e m low up h hl hu
    simp only [ckT, leB, Bool.or_eq_true, Bool.and_eq_true] at h
    rcases h with ⟨h2, h3⟩ | h2
    · refine ⟨_, of_decide_eq_true h2, ?_⟩
      rw [of_decide_eq_true h3]
      exact hl
    · have := (joinB_iff h1).mpr (JoinedP.mono hu ((joinB_iff h1).mp hj))
      rw [this] at h2
      cases h2
  | succ d ih =>
    intro e m low up h hl hu
    simp only [ckT] at h
    cases hd : decide (prE m (loE e) = prE m (hiE e)) with
    | true =>
      rw [hd] at h
      exact ih _ _ _ _ h hl hu
    | false =>
      rw [hd] at h
      simp only at h
      cases h2 : ckT n d (e + 1) (jnE m (prE m (loE e)) (prE m (hiE e)) n) (low ||| 2 ^ e) up with
      | false => rw [h2] at h; cases h
      | true =>
        rw [h2] at h
        simp only at h
        cases hb : p.testBit e with
        | true =>
          refine ih _ _ _ _ h2 (SubN.or_of hl (fun j hj => ?_)) hu
          rw [Nat.testBit_two_pow] at hj
          rw [← of_decide_eq_true hj]
          exact hb
        | false =>
          refine ih _ _ _ _ h hl (fun j hj => ?_)
          rw [Nat.testBit_xor, hu j hj, Nat.testBit_two_pow]
          have : ¬ e = j := fun z => by rw [z] at hb; rw [hb] at hj; cases hj
          rw [decide_eq_false this]
          rfl
theorem tree_in {n p : Nat} (h2 : 2 ≤ n) (h6 : n ≤ 6) (hp : p < 2 ^ (n * (n - 1) / 2)) (hj : joinB p n = true) : ∃ c, c < n ^ (n - 2) ∧ SubN (tlT n c) p := by
  have hsub : ∀ E, p < 2 ^ E → SubN p (2 ^ E - 1) := fun E hE j hj => by
    rw [Nat.testBit_two_pow_sub_one]
    refine decide_eq_true (Nat.lt_of_not_le (fun q => ?_))
    rw [Nat.testBit_lt_two_pow (Nat.lt_of_lt_of_le hE (Nat.pow_le_pow_right (by omega) q))] at hj
    cases hj
  have h0 : SubN 0 p := fun j hj => by rw [Nat.zero_testBit] at hj; cases hj
  rcases (show n = 2 ∨ n = 3 ∨ n = 4 ∨ n = 5 ∨ n = 6 by omega) with rfl | rfl | rfl | rfl | rfl
  · exact ckT_ok (by omega) hj _ _ _ _ _ ck_2 h0 (hsub 1 hp)
  · exact ckT_ok (by omega) hj _ _ _ _ _ ck_3 h0 (hsub 3 hp)
  · exact ckT_ok (by omega) hj _ _ _ _ _ ck_4 h0 (hsub 6 hp)
  · exact ckT_ok (by omega) hj _ _ _ _ _ ck_5 h0 (hsub 10 hp)
  · exact ckT_ok (by omega) hj _ _ _ _ _ ck_6 h0 (hsub 15 hp)
