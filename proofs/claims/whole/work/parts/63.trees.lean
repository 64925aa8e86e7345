/-! PURE, 26: trees by their codes -/
def lfT (D : Nat → Nat) (n i : Nat) : Nat := fstT (fun v => decide (D v = 1)) (n - i) i
def cnD (D : Nat → Nat) (a b : Nat) : Nat → Nat := upk (upk D a (D a - 1)) b (upk D a (D a - 1) b - 1)
def dgT (n : Nat) : Nat → Nat → (Nat → Nat) → Nat → Nat
  | 0, _, D => D
  | d + 1, l, D => dgT n d (l / n) (upk D (l % n) (D (l % n) + 1))
def twT (n : Nat) : Nat → (Nat → Nat) → Nat → Nat → (Nat → Nat) × Nat
  | 0, D, p, _ => (D, p)
  | d + 1, D, p, l => twT n d (cnD D (lfT D n 0) (l % n)) (p ||| 2 ^ pi2 (lfT D n 0) (l % n)) (l / n)
def twB (n : Nat) : Nat → (Nat → Nat) → Nat → Bool
  | 0, D, _ => decide (lfT D n 0 < n) && decide (lfT D n (lfT D n 0 + 1) < n)
  | d + 1, D, l => decide (lfT D n 0 < n) && (decide (lfT D n 0 ≠ l % n) && (decide (1 ≤ D (l % n)) && twB n d (cnD D (lfT D n 0) (l % n)) (l / n)))
def tlD (n c : Nat) : (Nat → Nat) × Nat := twT n (n - 2) (dgT n (n - 2) c (fun _ => 1)) 0 c
def tlF (s : (Nat → Nat) × Nat) (n : Nat) : Nat := s.2 ||| 2 ^ pi2 (lfT s.1 n 0) (lfT s.1 n (lfT s.1 n 0 + 1))
def tlT (n c : Nat) : Nat := tlF (tlD n c) n
def allQ (p : Nat → Bool) : Nat → Nat → Bool
  | 0, _ => true
  | d + 1, i => match p i with
    | true => allQ p d (i + 1)
    | false => false
theorem allQ_t {p : Nat → Bool} : ∀ d i, allQ p d i = true → ∀ j, i ≤ j → j < i + d → p j = true := by
  intro d
  induction d with
  | zero => intro i _ j h1 h2; omega
  | succ d ih =>
    intro i h j h1 h2
    simp only [allQ] at h
    cases hp : p i with
    | true =>
      rw [hp] at h
      by_cases hj : j = i
      · subst hj; exact hp
      · exact ih (i + 1) h j (by omega) (by omega)
    | false =>
      rw [hp] at h
      cases h
def tlB (n c : Nat) : Bool := twB n (n - 2) (dgT n (n - 2) c (fun _ => 1)) c && (joinB (tlT n c) n && (allQ (fun v => decide (nbT (tlT n c) v n ≠ 0)) n 0 && decide (tlT n c < 2 ^ (n * (n - 1) / 2))))
theorem tl_2 : allQ (tlB 2) 1 0 = true := by decide +kernel
theorem tl_3 : allQ (tlB 3) 3 0 = true := by decide +kernel
theorem tl_4 : allQ (tlB 4) 16 0 = true := by decide +kernel
theorem tl_5 : allQ (tlB 5) 125 0 = true := by decide +kernel
theorem tl_6 : allQ (tlB 6) 1296 0 = true := by decide +kernel
theorem tl_all {n c : Nat} (h2 : 2 ≤ n) (h6 : n ≤ 6) (hc : c < n ^ (n - 2)) : tlB n c = true := by
  rcases (show n = 2 ∨ n = 3 ∨ n = 4 ∨ n = 5 ∨ n = 6 by omega) with rfl | rfl | rfl | rfl | rfl
  · exact allQ_t _ _ tl_2 c (Nat.zero_le c) (by simpa using hc)
  · exact allQ_t _ _ tl_3 c (Nat.zero_le c) (by simpa using hc)
  · exact allQ_t _ _ tl_4 c (Nat.zero_le c) (by simpa using hc)
  · exact allQ_t _ _ tl_5 c (Nat.zero_le c) (by simpa using hc)
  · exact allQ_t _ _ tl_6 c (Nat.zero_le c) (by simpa using hc)
/-- the code of a tree, found -/
def enS (n p m a : Nat) (f : Nat → Nat → Nat) : Nat := m * Nat.log2 (nbT p a n) + f (p ^^^ 2 ^ pi2 a (Nat.log2 (nbT p a n))) (m * n)
def enT (n : Nat) : Nat → Nat → Nat → Nat
  | 0, _, _ => 0
  | d + 1, p, m => enS n p m (fstT (fun v => decide (nbT p v n ≠ 0) && decide (nbT p v n &&& (nbT p v n - 1) = 0)) n 0) (fun q k => enT n d q k)
def leB (n low up : Nat) : Bool := (decide (enT n (n - 2) low 1 < n ^ (n - 2)) && decide (tlT n (enT n (n - 2) low 1) = low)) || !joinB up n
/-- which nodes a link joins -/
def loE (e : Nat) : Nat := if e < 1 then 0 else if e < 3 then e - 1 else if e < 6 then e - 3 else if e < 10 then e - 6 else e - 10
def hiE (e : Nat) : Nat := if e < 1 then 1 else if e < 3 then 2 else if e < 6 then 3 else if e < 10 then 4 else 5
/-- the name of each node's part, 3 bits a node; m: the parts so far -/
def prE (m v : Nat) : Nat := m / 8 ^ v % 8
def jnE (m a b : Nat) : Nat → Nat
  | 0 => 0
  | v + 1 => jnE m a b v + 8 ^ v * (if prE m v = a then b else prE m v)
def ckT (n : Nat) : Nat → Nat → Nat → Nat → Nat → Bool
  | 0, _, _, low, up => leB n low up
  | d + 1, e, m, low, up => match decide (prE m (loE e) = prE m (hiE e)) with
    | true => ckT n d (e + 1) m low up
    | false => match ckT n d (e + 1) (jnE m (prE m (loE e)) (prE m (hiE e)) n) (low ||| 2 ^ e) up with
      | true => ckT n d (e + 1) m low (up ^^^ 2 ^ e)
      | false => false
theorem ck_2 : ckT 2 1 0 8 0 1 = true := by decide +kernel
theorem ck_3 : ckT 3 3 0 136 0 7 = true := by decide +kernel
theorem ck_4 : ckT 4 6 0 1672 0 63 = true := by decide +kernel
theorem ck_5 : ckT 5 10 0 18056 0 1023 = true := by decide +kernel
theorem ckT_br {n d e m low up m2 low2 up2 : Nat} (h0 : decide (prE m (loE e) = prE m (hiE e)) = false) (h1 : jnE m (prE m (loE e)) (prE m (hiE e)) n = m2) (h2 : low ||| 2 ^ e = low2) (h3 : up ^^^ 2 ^ e = up2) (ha : ckT n d (e + 1) m2 low2 up = true) (hb : ckT n d (e + 1) m low up2 = true) : ckT n (d + 1) e m low up = true := by
  subst h1 h2 h3
  simp only [ckT]
  rw [h0]
  simp only
  rw [ha]
  exact hb
theorem ckT_rd {n d e m low up : Nat} (h0 : decide (prE m (loE e) = prE m (hiE e)) = true) (ha : ckT n d (e + 1) m low up = true) : ckT n (d + 1) e m low up = true := by
  simp only [ckT]
  rw [h0]
  exact ha
theorem tk_6 : ckT 6 9 6 181979 11 32767 = true := by decide +kernel
theorem tk_5 : ckT 6 10 5 181979 11 32767 = true := ckT_rd (by decide +kernel) tk_6
theorem tk_4 : ckT 6 11 4 181979 11 32767 = true := ckT_rd (by decide +kernel) tk_5
theorem tk_9 : ckT 6 9 6 181979 19 32759 = true := by decide +kernel
theorem tk_8 : ckT 6 10 5 181979 19 32759 = true := ckT_rd (by decide +kernel) tk_9
theorem tk_11 : ckT 6 9 6 181979 35 32743 = true := by decide +kernel
theorem tk_12 : ckT 6 9 6 181906 3 32711 = true := by decide +kernel
theorem tk_10 : ckT 6 10 5 181906 3 32743 = true := ckT_br (by decide +kernel) (by decide +kernel) (by decide +kernel) (by decide +kernel) tk_11 tk_12
theorem tk_7 : ckT 6 11 4 181906 3 32759 = true := ckT_br (by decide +kernel) (by decide +kernel) (by decide +kernel) (by decide +kernel) tk_8 tk_10
theorem tk_3 : ckT 6 12 3 181906 3 32767 = true := ckT_br (by decide +kernel) (by decide +kernel) (by decide +kernel) (by decide +kernel) tk_4 tk_7
theorem tk_2 : ckT 6 13 2 181906 3 32767 = true := ckT_rd (by decide +kernel) tk_3
theorem tk_17 : ckT 6 9 6 181979 13 32765 = true := by decide +kernel
theorem tk_16 : ckT 6 10 5 181979 13 32765 = true := ckT_rd (by decide +kernel) tk_17
theorem tk_15 : ckT 6 11 4 181979 13 32765 = true := ckT_rd (by decide +kernel) tk_16
theorem tk_20 : ckT 6 9 6 181979 21 32757 = true := by decide +kernel
theorem tk_19 : ckT 6 10 5 181979 21 32757 = true := ckT_rd (by decide +kernel) tk_20
theorem tk_22 : ckT 6 9 6 181979 37 32741 = true := by decide +kernel
theorem tk_23 : ckT 6 9 6 181906 5 32709 = true := by decide +kernel
theorem tk_21 : ckT 6 10 5 181906 5 32741 = true := ckT_br (by decide +kernel) (by decide +kernel) (by decide +kernel) (by decide +kernel) tk_22 tk_23
theorem tk_18 : ckT 6 11 4 181906 5 32757 = true := ckT_br (by decide +kernel) (by decide +kernel) (by decide +kernel) (by decide +kernel) tk_19 tk_21
theorem tk_14 : ckT 6 12 3 181906 5 32765 = true := ckT_br (by decide +kernel) (by decide +kernel) (by decide +kernel) (by decide +kernel) tk_15 tk_18
theorem tk_27 : ckT 6 9 6 181979 41 32761 = true := by decide +kernel
theorem tk_28 : ckT 6 9 6 181915 9 32729 = true := by decide +kernel
theorem tk_26 : ckT 6 10 5 181915 9 32761 = true := ckT_br (by decide +kernel) (by decide +kernel) (by decide +kernel) (by decide +kernel) tk_27 tk_28
theorem tk_25 : ckT 6 11 4 181915 9 32761 = true := ckT_rd (by decide +kernel) tk_26
theorem tk_31 : ckT 6 9 6 181979 49 32753 = true := by decide +kernel
theorem tk_32 : ckT 6 9 6 181915 17 32721 = true := by decide +kernel
theorem tk_30 : ckT 6 10 5 181915 17 32753 = true := ckT_br (by decide +kernel) (by decide +kernel) (by decide +kernel) (by decide +kernel) tk_31 tk_32
theorem tk_34 : ckT 6 9 6 181961 33 32737 = true := by decide +kernel
theorem tk_35 : ckT 6 9 6 181897 1 32705 = true := by decide +kernel
theorem tk_33 : ckT 6 10 5 181897 1 32737 = true := ckT_br (by decide +kernel) (by decide +kernel) (by decide +kernel) (by decide +kernel) tk_34 tk_35
theorem tk_29 : ckT 6 11 4 181897 1 32753 = true := ckT_br (by decide +kernel) (by decide +kernel) (by decide +kernel) (by decide +kernel) tk_30 tk_33
theorem tk_24 : ckT 6 12 3 181897 1 32761 = true := ckT_br (by decide +kernel) (by decide +kernel) (by decide +kernel) (by decide +kernel) tk_25 tk_29
theorem tk_13 : ckT 6 13 2 181897 1 32765 = true := ckT_br (by decide +kernel) (by decide +kernel) (by decide +kernel) (by decide +kernel) tk_14 tk_24
theorem tk_1 : ckT 6 14 1 181897 1 32767 = true := ckT_br (by decide +kernel) (by decide +kernel) (by decide +kernel) (by decide +kernel) tk_2 tk_13
theorem tk_41 : ckT 6 9 6 181979 14 32766 = true := by decide +kernel
theorem tk_40 : ckT 6 10 5 181979 14 32766 = true := ckT_rd (by decide +kernel) tk_41
theorem tk_39 : ckT 6 11 4 181979 14 32766 = true := ckT_rd (by decide +kernel) tk_40
theorem tk_44 : ckT 6 9 6 181979 22 32758 = true := by decide +kernel
theorem tk_43 : ckT 6 10 5 181979 22 32758 = true := ckT_rd (by decide +kernel) tk_44
theorem tk_46 : ckT 6 9 6 181979 38 32742 = true := by decide +kernel
theorem tk_47 : ckT 6 9 6 181906 6 32710 = true := by decide +kernel
theorem tk_45 : ckT 6 10 5 181906 6 32742 = true := ckT_br (by decide +kernel) (by decide +kernel) (by decide +kernel) (by decide +kernel) tk_46 tk_47
theorem tk_42 : ckT 6 11 4 181906 6 32758 = true := ckT_br (by decide +kernel) (by decide +kernel) (by decide +kernel) (by decide +kernel) tk_43 tk_45
theorem tk_38 : ckT 6 12 3 181906 6 32766 = true := ckT_br (by decide +kernel) (by decide +kernel) (by decide +kernel) (by decide +kernel) tk_39 tk_42
theorem tk_51 : ckT 6 9 6 181979 26 32762 = true := by decide +kernel
theorem tk_50 : ckT 6 10 5 181979 26 32762 = true := ckT_rd (by decide +kernel) tk_51
theorem tk_53 : ckT 6 9 6 181963 10 32746 = true := by decide +kernel
theorem tk_52 : ckT 6 10 5 181963 10 32746 = true := ckT_rd (by decide +kernel) tk_53
theorem tk_49 : ckT 6 11 4 181963 10 32762 = true := ckT_br (by decide +kernel) (by decide +kernel) (by decide +kernel) (by decide +kernel) tk_50 tk_52
theorem tk_56 : ckT 6 9 6 181979 50 32754 = true := by decide +kernel
theorem tk_57 : ckT 6 9 6 181914 18 32722 = true := by decide +kernel
theorem tk_55 : ckT 6 10 5 181914 18 32754 = true := ckT_br (by decide +kernel) (by decide +kernel) (by decide +kernel) (by decide +kernel) tk_56 tk_57
theorem tk_59 : ckT 6 9 6 181963 34 32738 = true := by decide +kernel
theorem tk_60 : ckT 6 9 6 181898 2 32706 = true := by decide +kernel
theorem tk_58 : ckT 6 10 5 181898 2 32738 = true := ckT_br (by decide +kernel) (by decide +kernel) (by decide +kernel) (by decide +kernel) tk_59 tk_60
theorem tk_54 : ckT 6 11 4 181898 2 32754 = true := ckT_br (by decide +kernel) (by decide +kernel) (by decide +kernel) (by decide +kernel) tk_55 tk_58
theorem tk_48 : ckT 6 12 3 181898 2 32762 = true := ckT_br (by decide +kernel) (by decide +kernel) (by decide +kernel) (by decide +kernel) tk_49 tk_54
theorem tk_37 : ckT 6 13 2 181898 2 32766 = true := ckT_br (by decide +kernel) (by decide +kernel) (by decide +kernel) (by decide +kernel) tk_38 tk_48
theorem tk_65 : ckT 6 9 6 181979 28 32764 = true := by decide +kernel
theorem tk_64 : ckT 6 10 5 181979 28 32764 = true := ckT_rd (by decide +kernel) tk_65
theorem tk_67 : ckT 6 9 6 181979 44 32748 = true := by decide +kernel
theorem tk_68 : ckT 6 9 6 181907 12 32716 = true := by decide +kernel
theorem tk_66 : ckT 6 10 5 181907 12 32748 = true := ckT_br (by decide +kernel) (by decide +kernel) (by decide +kernel) (by decide +kernel) tk_67 tk_68
theorem tk_63 : ckT 6 11 4 181907 12 32764 = true := ckT_br (by decide +kernel) (by decide +kernel) (by decide +kernel) (by decide +kernel) tk_64 tk_66
theorem tk_71 : ckT 6 9 6 181976 20 32756 = true := by decide +kernel
theorem tk_70 : ckT 6 10 5 181976 20 32756 = true := ckT_rd (by decide +kernel) tk_71
theorem tk_73 : ckT 6 9 6 181976 36 32740 = true := by decide +kernel
theorem tk_74 : ckT 6 9 6 181904 4 32708 = true := by decide +kernel
theorem tk_72 : ckT 6 10 5 181904 4 32740 = true := ckT_br (by decide +kernel) (by decide +kernel) (by decide +kernel) (by decide +kernel) tk_73 tk_74
theorem tk_69 : ckT 6 11 4 181904 4 32756 = true := ckT_br (by decide +kernel) (by decide +kernel) (by decide +kernel) (by decide +kernel) tk_70 tk_72
theorem tk_62 : ckT 6 12 3 181904 4 32764 = true := ckT_br (by decide +kernel) (by decide +kernel) (by decide +kernel) (by decide +kernel) tk_63 tk_69
theorem tk_78 : ckT 6 9 6 181979 56 32760 = true := by decide +kernel
theorem tk_79 : ckT 6 9 6 181915 24 32728 = true := by decide +kernel
theorem tk_77 : ckT 6 10 5 181915 24 32760 = true := ckT_br (by decide +kernel) (by decide +kernel) (by decide +kernel) (by decide +kernel) tk_78 tk_79
theorem tk_81 : ckT 6 9 6 181963 40 32744 = true := by decide +kernel
theorem tk_82 : ckT 6 9 6 181899 8 32712 = true := by decide +kernel
theorem tk_80 : ckT 6 10 5 181899 8 32744 = true := ckT_br (by decide +kernel) (by decide +kernel) (by decide +kernel) (by decide +kernel) tk_81 tk_82
theorem tk_76 : ckT 6 11 4 181899 8 32760 = true := ckT_br (by decide +kernel) (by decide +kernel) (by decide +kernel) (by decide +kernel) tk_77 tk_80
theorem tk_85 : ckT 6 9 6 181976 48 32752 = true := by decide +kernel
theorem tk_86 : ckT 6 9 6 181912 16 32720 = true := by decide +kernel
theorem tk_84 : ckT 6 10 5 181912 16 32752 = true := ckT_br (by decide +kernel) (by decide +kernel) (by decide +kernel) (by decide +kernel) tk_85 tk_86
theorem tk_88 : ckT 6 9 6 181960 32 32736 = true := by decide +kernel
theorem tk_89 : ckT 6 9 6 181896 0 32704 = true := by decide +kernel
theorem tk_87 : ckT 6 10 5 181896 0 32736 = true := ckT_br (by decide +kernel) (by decide +kernel) (by decide +kernel) (by decide +kernel) tk_88 tk_89
theorem tk_83 : ckT 6 11 4 181896 0 32752 = true := ckT_br (by decide +kernel) (by decide +kernel) (by decide +kernel) (by decide +kernel) tk_84 tk_87
theorem tk_75 : ckT 6 12 3 181896 0 32760 = true := ckT_br (by decide +kernel) (by decide +kernel) (by decide +kernel) (by decide +kernel) tk_76 tk_83
theorem tk_61 : ckT 6 13 2 181896 0 32764 = true := ckT_br (by decide +kernel) (by decide +kernel) (by decide +kernel) (by decide +kernel) tk_62 tk_75
theorem tk_36 : ckT 6 14 1 181896 0 32766 = true := ckT_br (by decide +kernel) (by decide +kernel) (by decide +kernel) (by decide +kernel) tk_37 tk_61
theorem tk_0 : ckT 6 15 0 181896 0 32767 = true := ckT_br (by decide +kernel) (by decide +kernel) (by decide +kernel) (by decide +kernel) tk_1 tk_36
theorem ck_6 : ckT 6 15 0 181896 0 32767 = true := tk_0
theorem ckT_ok {n p : Nat} (h1 : 1 ≤ n) (hj : joinB p n = true) : ∀ d e m low up, ckT n d e m low up = true → SubN low p → SubN p up → ∃ c, c < n ^ (n - 2) ∧ SubN (tlT n c) p := by
  intro d
  induction d with
  | zero =>
    intro e m low up h hl hu
    simp only [ckT, leB, Bool.or_eq_true, Bool.and_eq_true] at h
    rcases h with ⟨h2, h3⟩ | h2
    · refine ⟨_, of_decide_eq_true h2, ?_⟩
      rw [of_decide_eq_true h3]
      exact hl
    · have := (joinB_iff h1).mpr (JoinedP.mono hu ((joinB_iff h1).mp hj))
      rw [this] at h2
      cases h2
  | succ d ih =>
    intro e m low up h hl hu
    simp only [ckT] at h
    cases hd : decide (prE m (loE e) = prE m (hiE e)) with
    | true =>
      rw [hd] at h
      exact ih _ _ _ _ h hl hu
    | false =>
      rw [hd] at h
      simp only at h
      cases h2 : ckT n d (e + 1) (jnE m (prE m (loE e)) (prE m (hiE e)) n) (low ||| 2 ^ e) up with
      | false => rw [h2] at h; cases h
      | true =>
        rw [h2] at h
        simp only at h
        cases hb : p.testBit e with
        | true =>
          refine ih _ _ _ _ h2 (SubN.or_of hl (fun j hj => ?_)) hu
          rw [Nat.testBit_two_pow] at hj
          rw [← of_decide_eq_true hj]
          exact hb
        | false =>
          refine ih _ _ _ _ h hl (fun j hj => ?_)
          rw [Nat.testBit_xor, hu j hj, Nat.testBit_two_pow]
          have : ¬ e = j := fun z => by rw [z] at hb; rw [hb] at hj; cases hj
          rw [decide_eq_false this]
          rfl
theorem tree_in {n p : Nat} (h2 : 2 ≤ n) (h6 : n ≤ 6) (hp : p < 2 ^ (n * (n - 1) / 2)) (hj : joinB p n = true) : ∃ c, c < n ^ (n - 2) ∧ SubN (tlT n c) p := by
  have hsub : ∀ E, p < 2 ^ E → SubN p (2 ^ E - 1) := fun E hE j hj => by
    rw [Nat.testBit_two_pow_sub_one]
    refine decide_eq_true (Nat.lt_of_not_le (fun q => ?_))
    rw [Nat.testBit_lt_two_pow (Nat.lt_of_lt_of_le hE (Nat.pow_le_pow_right (by omega) q))] at hj
    cases hj
  have h0 : SubN 0 p := fun j hj => by rw [Nat.zero_testBit] at hj; cases hj
  rcases (show n = 2 ∨ n = 3 ∨ n = 4 ∨ n = 5 ∨ n = 6 by omega) with rfl | rfl | rfl | rfl | rfl
  · exact ckT_ok (by omega) hj _ _ _ _ _ ck_2 h0 (hsub 1 hp)
  · exact ckT_ok (by omega) hj _ _ _ _ _ ck_3 h0 (hsub 3 hp)
  · exact ckT_ok (by omega) hj _ _ _ _ _ ck_4 h0 (hsub 6 hp)
  · exact ckT_ok (by omega) hj _ _ _ _ _ ck_5 h0 (hsub 10 hp)
  · exact ckT_ok (by omega) hj _ _ _ _ _ ck_6 h0 (hsub 15 hp)
