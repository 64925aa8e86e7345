/-! PURE, 1: numbers and bits -/
theorem ni_bv (a : Nat) : (nI a).toBitVec = BitVec.ofNat 32 a := rfl
theorem i32_ext {x y : Int32} (h : x.toBitVec = y.toBitVec) : x = y := Int32.toBitVec_inj.mp h
theorem ni_xor (a b : Nat) : nI a ^^^ nI b = nI (a ^^^ b) := by
  apply i32_ext
  rw [Int32.toBitVec_xor, ni_bv, ni_bv, ni_bv]
  apply BitVec.eq_of_getLsbD_eq
  intro i hi
  simp [BitVec.getLsbD_ofNat, Nat.testBit_xor, hi]
theorem ni_and (a b : Nat) : nI a &&& nI b = nI (a &&& b) := by
  apply i32_ext
  rw [Int32.toBitVec_and, ni_bv, ni_bv, ni_bv]
  apply BitVec.eq_of_getLsbD_eq
  intro i hi
  simp [BitVec.getLsbD_ofNat, Nat.testBit_and, hi]
theorem ni_or (a b : Nat) : nI a ||| nI b = nI (a ||| b) := by
  apply i32_ext
  rw [Int32.toBitVec_or, ni_bv, ni_bv, ni_bv]
  apply BitVec.eq_of_getLsbD_eq
  intro i hi
  simp [BitVec.getLsbD_ofNat, Nat.testBit_or, hi]
theorem ni_m31 : ∀ j, j < 32 → nI j &&& 31 = nI j := by decide +kernel
theorem ni_shl1 : ∀ j, j < 32 → (1 : Int32) <<< (nI j &&& 31) = nI (2 ^ j) := by decide +kernel
theorem ni_smod : ∀ j, j < 32 → ((nI j &&& 31).toBitVec.smod 32).toNat = j := by decide +kernel
/-- a bit of a word of 32 -/
theorem ni_has {a j : Nat} (ha : a < 2 ^ 32) (hj : j < 32) : ((nI a >>> (nI j &&& 31)) &&& (1 : Int32)) = 1 ↔ a.testBit j = true := by
  have hk := ni_smod j hj
  have e : ((nI a >>> (nI j &&& 31)) &&& (1 : Int32)).toBitVec = (BitVec.ofNat 32 a).sshiftRight j &&& 1#32 := by
    rw [Int32.toBitVec_and, Int32.toBitVec_shiftRight, ni_bv]
    show (BitVec.ofNat 32 a).sshiftRight ((nI j &&& 31).toBitVec.smod 32).toNat &&& _ = _
    rw [hk]
    rfl
  have g0 : ((BitVec.ofNat 32 a).sshiftRight j).getLsbD 0 = a.testBit j := by
    have g1 : (BitVec.ofNat 32 a).getLsbD j = a.testBit j := by
      rw [BitVec.getLsbD_ofNat]
      simp [hj]
    rw [BitVec.getLsbD_sshiftRight, Nat.add_zero, if_pos hj, g1]
    rfl
  constructor
  · intro h
    have h1 := congrArg Int32.toBitVec h
    rw [e] at h1
    have h3 : ((BitVec.ofNat 32 a).sshiftRight j &&& 1#32).getLsbD 0 = true := by rw [h1]; decide
    rw [BitVec.getLsbD_and, g0, show (1#32).getLsbD 0 = true from rfl, Bool.and_true] at h3
    exact h3
  · intro h
    apply i32_ext
    rw [e]
    apply BitVec.eq_of_getLsbD_eq
    intro i hi
    by_cases h0 : i = 0
    · subst h0
      rw [BitVec.getLsbD_and, g0, h]
      rfl
    · have h1 : (1#32).getLsbD i = false := by
        rw [BitVec.getLsbD_one]
        simp [h0]
      rw [BitVec.getLsbD_and, h1, Bool.and_false]
      exact h1.symm
theorem ni_hasN {a j : Nat} (ha : a < 2 ^ 32) (hj : j < 32) : ¬ ((nI a >>> (nI j &&& 31)) &&& (1 : Int32)) = 1 ↔ a.testBit j = false := by
  rw [ni_has ha hj]
  simp
/-- what is in the one and not in the other -/
theorem ni_andn (a b : Nat) : nI a &&& (nI b ^^^ (-1)) = nI (a ^^^ (a &&& b)) := by
  apply i32_ext
  rw [Int32.toBitVec_and, Int32.toBitVec_xor, ni_bv, ni_bv, ni_bv]
  have h1 : (-1 : Int32).toBitVec = BitVec.allOnes 32 := by decide
  rw [h1]
  apply BitVec.eq_of_getLsbD_eq
  intro i hi
  simp only [BitVec.getLsbD_and, BitVec.getLsbD_xor, BitVec.getLsbD_ofNat, hi, decide_true, Bool.true_and, BitVec.getLsbD_allOnes, Nat.testBit_xor, Nat.testBit_and]
  cases a.testBit i <;> cases b.testBit i <;> rfl
theorem upk2 {α : Type} (f : Nat → α) (k : Nat) (v w : α) : upk (upk f k v) k w = upk f k w := by
  funext j
  by_cases h : j = k <;> simp [upk, h]
theorem upk_id {α : Type} (f : Nat → α) (k : Nat) : upk f k (f k) = f := by
  funext j
  by_cases h : j = k <;> simp [upk, h]
theorem sti_at (I : KI) (k j : Nat) (v : Int32) : sti I k j v k = upd (I k) j v := upk_s
theorem sti_ne (I : KI) {k q : Nat} (j : Nat) (v : Int32) (h : q ≠ k) : sti I k j v q = I q := upk_n h
theorem sti_upk (I : KI) (k j : Nat) (v : Int32) (f : Nat → Int32) : sti (upk I k f) k j v = upk I k (upd f j v) := by
  unfold sti
  rw [upk_s, upk2]
theorem sti_eq (I : KI) (k j : Nat) (v : Int32) : sti I k j v = upk I k (upd (I k) j v) := rfl
theorem xz {a b : Nat} (h : a ^^^ b = 0) : a = b := by
  apply Nat.eq_of_testBit_eq
  intro j
  have := congrArg (fun z => z.testBit j) h
  simp only [Nat.testBit_xor, Nat.zero_testBit] at this
  revert this
  cases a.testBit j <;> cases b.testBit j <;> simp
/-! PURE, 2: sums of tokens. A basis: f t is the sum whose greatest token is t, or 0. -/
/-- what is left of x when the tokens below i have been looked at -/
def rst (f : Nat → Nat) (x : Nat) : Nat → Nat
  | 0 => x
  | i + 1 => if x.testBit i then rst f x i ^^^ f i else rst f x i
def red (f : Nat → Nat) (x : Nat) : Nat := rst f x 8
/-- how many sums the tokens below i have -/
def rkT (f : Nat → Nat) : Nat → Nat
  | 0 => 0
  | i + 1 => rkT f i + if f i = 0 then 0 else 1
def rk (f : Nat → Nat) : Nat := rkT f 8
/-- a basis as the class holds it, of tokens below k -/
def Gb (f : Nat → Nat) (k : Nat) : Prop := (∀ t, t < 8 → f t ≠ 0 → f t < 2 ^ (t + 1) ∧ (f t).testBit t = true ∧ t < k) ∧ ∀ t, t < 8 → ∀ u, u < 8 → t ≠ u → f t ≠ 0 → f u ≠ 0 → (f t).testBit u = false
theorem rst_xor (f : Nat → Nat) (x y : Nat) : ∀ i, rst f (x ^^^ y) i = rst f x i ^^^ rst f y i := by
  intro i
  induction i with
  | zero => rfl
  | succ i ih =>
    simp only [rst, Nat.testBit_xor, ih]
    cases hx : x.testBit i <;> cases hy : y.testBit i
    · simp
    · simp [Nat.xor_assoc]
    · simp only [Bool.true_xor, Bool.not_false, if_true, Bool.false_eq_true, if_false]
      rw [Nat.xor_assoc, Nat.xor_comm (rst f y i), ← Nat.xor_assoc]
    · simp only [Bool.true_xor, Bool.not_true, Bool.false_eq_true, if_false, if_true]
      apply Nat.eq_of_testBit_eq
      intro j
      simp only [Nat.testBit_xor]
      cases (rst f x i).testBit j <;> cases (rst f y i).testBit j <;> cases (f i).testBit j <;> rfl
theorem red_xor (f : Nat → Nat) (x y : Nat) : red f (x ^^^ y) = red f x ^^^ red f y := rst_xor f x y 8
/-- a head's bit, while tokens are looked at -/
theorem rst_head {f : Nat → Nat} {k : Nat} (h : Gb f k) {u : Nat} (hu : u < 8) (hf : f u ≠ 0) (x : Nat) : ∀ i, i ≤ 8 → (rst f x i).testBit u = (x.testBit u && decide (i ≤ u)) := by
  intro i
  induction i with
  | zero => intro _; simp [rst]
  | succ i ih =>
    intro hi
    have ih := ih (by omega)
    simp only [rst]
    by_cases hxi : x.testBit i = true
    · rw [if_pos hxi, Nat.testBit_xor, ih]
      by_cases hiu : i = u
      · subst hiu
        rw [(h.1 i hu hf).2.1, hxi]
        simp
      · have hz : (f i).testBit u = false := by
          by_cases hfi : f i = 0
          · simp [hfi]
          · exact h.2 i (by omega) u hu hiu hfi hf
        rw [hz, Bool.xor_false]
        congr 1
        exact decide_eq_decide.mpr ⟨fun q => by omega, fun q => by omega⟩
    · rw [if_neg hxi, ih]
      by_cases hiu : i = u
      · subst hiu
        simp [Bool.eq_false_iff.mpr hxi]
      · congr 1
        exact decide_eq_decide.mpr ⟨fun q => by omega, fun q => by omega⟩
theorem red_head {f : Nat → Nat} {k : Nat} (h : Gb f k) {u : Nat} (hu : u < 8) (hf : f u ≠ 0) (x : Nat) : (red f x).testBit u = false := by
  have := rst_head h hu hf x 8 (Nat.le_refl 8)
  rw [red, this]
  simp
  omega
theorem rst_lt {f : Nat → Nat} {k : Nat} (h : Gb f k) {x n : Nat} (hx : x < 2 ^ n) (hk : k ≤ n) : ∀ i, i ≤ 8 → rst f x i < 2 ^ n := by
  intro i
  induction i with
  | zero => intro _; exact hx
  | succ i ih =>
    intro hi
    have ih := ih (by omega)
    simp only [rst]
    split
    · refine Nat.xor_lt_two_pow ih ?_
      by_cases hfi : f i = 0
      · rw [hfi]; exact Nat.two_pow_pos n
      · obtain ⟨h1, -, h3⟩ := h.1 i (by omega) hfi
        exact Nat.lt_of_lt_of_le h1 (Nat.pow_le_pow_right (by omega) (by omega))
    · exact ih
theorem red_lt {f : Nat → Nat} {k : Nat} (h : Gb f k) {x n : Nat} (hx : x < 2 ^ n) (hk : k ≤ n) : red f x < 2 ^ n := rst_lt h hx hk 8 (Nat.le_refl 8)
/-- the basis with one sum more: what is left of it is r, its greatest token t -/
def adf (f : Nat → Nat) (r t : Nat) : Nat → Nat := fun u => if u = t then r else if (f u).testBit t then f u ^^^ r else f u
/-- the greatest token of a number below 2^i, -1 .. as i if there is none -/
def topT (x : Nat) : Nat → Nat
  | 0 => 8
  | i + 1 => if x.testBit i then i else topT x i
theorem topT_some {x : Nat} : ∀ i, i ≤ 8 → topT x i < 8 → topT x i < i ∧ x.testBit (topT x i) = true ∧ ∀ j, topT x i < j → j < i → x.testBit j = false := by
  intro i
  induction i with
  | zero => intro _ h; simp [topT] at h
  | succ i ih =>
    intro hi h
    simp only [topT] at h ⊢
    by_cases hx : x.testBit i = true
    · rw [if_pos hx] at h ⊢
      exact ⟨by omega, hx, fun j h1 h2 => by omega⟩
    · rw [if_neg hx] at h ⊢
      obtain ⟨h1, h2, h3⟩ := ih (by omega) h
      refine ⟨by omega, h2, fun j q1 q2 => ?_⟩
      by_cases hj : j = i
      · subst hj; simpa using hx
      · exact h3 j q1 (by omega)
theorem topT_none {x : Nat} : ∀ i, i ≤ 8 → ¬ topT x i < 8 → ∀ j, j < i → x.testBit j = false := by
  intro i
  induction i with
  | zero => intro _ _ j h; omega
  | succ i ih =>
    intro hi h j hj
    simp only [topT] at h
    by_cases hx : x.testBit i = true
    · rw [if_pos hx] at h; omega
    · rw [if_neg hx] at h
      by_cases hji : j = i
      · subst hji; simpa using hx
      · exact ih (by omega) h j (by omega)
theorem lt_of_bits {x n m : Nat} (hx : x < 2 ^ m) (h : ∀ j, n ≤ j → j < m → x.testBit j = false) : x < 2 ^ n := by
  apply Nat.lt_pow_two_of_testBit
  intro j hj
  by_cases hm : j < m
  · exact h j hj hm
  · exact Nat.testBit_lt_two_pow (Nat.lt_of_lt_of_le hx (Nat.pow_le_pow_right (by omega) (by omega)))
theorem rst_adf {f : Nat → Nat} {k r t : Nat} (h : Gb f k) (ht : t < 8) (h0 : f t = 0) (hr : r.testBit t = true) (x : Nat) : ∀ i, i ≤ 8 → rst (adf f r t) x i = rst f x i ^^^ (if ((rst f x i).testBit t ^^ (x.testBit t && decide (i ≤ t))) then r else 0) := by
  intro i
  induction i with
  | zero => intro _; simp [rst]
  | succ i ih =>
    intro hi
    have ih := ih (by omega)
    simp only [rst]
    by_cases hxi : x.testBit i = true
    · simp only [hxi, if_true, ih]
      by_cases hit : i = t
      · subst hit
        have e : adf f r i i = r := by simp [adf]
        rw [e, h0, Nat.xor_zero, hxi]
        simp only [Bool.true_and, Nat.le_refl, decide_true, Bool.xor_true]
        have e2 : decide (i + 1 ≤ i) = false := by simp
        rw [e2, Bool.xor_false]
        cases (rst f x i).testBit i
        · simp [Nat.xor_assoc]
        · simp [Nat.xor_assoc]
      · have e : adf f r t i = if (f i).testBit t then f i ^^^ r else f i := by simp [adf, hit]
        have e2 : decide (i + 1 ≤ t) = decide (i ≤ t) := decide_eq_decide.mpr ⟨fun q => by omega, fun q => by omega⟩
        rw [e, e2, Nat.testBit_xor]
        generalize (x.testBit t && decide (i ≤ t)) = c
        generalize rst f x i = y
        cases hy : y.testBit t <;> cases hf : (f i).testBit t <;> cases c <;> (simp; try (apply Nat.eq_of_testBit_eq; intro q; simp only [Nat.testBit_xor]; cases y.testBit q <;> cases (f i).testBit q <;> cases r.testBit q <;> rfl))
    · have hxi' : x.testBit i = false := by simpa using hxi
      simp only [hxi', Bool.false_eq_true, if_false, ih]
      by_cases hit : i = t
      · subst hit
        simp [hxi']
      · have e2 : decide (i + 1 ≤ t) = decide (i ≤ t) := decide_eq_decide.mpr ⟨fun q => by omega, fun q => by omega⟩
        rw [e2]
theorem red_adf {f : Nat → Nat} {k r t : Nat} (h : Gb f k) (ht : t < 8) (h0 : f t = 0) (hr : r.testBit t = true) (x : Nat) : red (adf f r t) x = red f x ^^^ (if (red f x).testBit t then r else 0) := by
  have := rst_adf h ht h0 hr x 8 (Nat.le_refl 8)
  rw [red, red, this]
  have e : decide (8 ≤ t) = false := by simp; omega
  rw [e, Bool.and_false, Bool.xor_false]
/-- known: nothing is left -/
def Sp (f : Nat → Nat) (x : Nat) : Prop := red f x = 0
theorem Sp_adf {f : Nat → Nat} {k s t : Nat} (h : Gb f k) (ht : t < 8) (h0 : f t = 0) (hr : (red f s).testBit t = true) (x : Nat) : Sp (adf f (red f s) t) x ↔ Sp f x ∨ Sp f (x ^^^ s) := by
  unfold Sp
  rw [red_adf h ht h0 hr, red_xor]
  generalize red f x = a
  generalize red f s = b at hr
  constructor
  · intro q
    by_cases ha : a.testBit t = true
    · rw [if_pos ha] at q
      exact Or.inr q
    · rw [if_neg ha, Nat.xor_zero] at q
      exact Or.inl q
  · intro q
    rcases q with q | q
    · subst q; simp
    · have e : a = b := xz q
      subst e
      rw [if_pos hr]
      exact Nat.xor_self a
theorem Gb_adf {f : Nat → Nat} {k s t : Nat} (h : Gb f k) (ht : t < 8) (hk : t < k) (hlt : red f s < 2 ^ (t + 1)) (hr : (red f s).testBit t = true) : Gb (adf f (red f s) t) k := by
  have hz : f t = 0 := by
    by_cases q : f t = 0
    · exact q
    · rw [red_head h ht q s] at hr; cases hr
  refine ⟨fun u hu hne => ?_, fun u hu v hv huv hnu hnv => ?_⟩
  · by_cases hut : u = t
    · subst hut
      have e : adf f (red f s) u u = red f s := by simp [adf]
      rw [e]
      exact ⟨hlt, hr, hk⟩
    · have e : adf f (red f s) t u = if (f u).testBit t then f u ^^^ red f s else f u := by simp [adf, hut]
      rw [e] at hne ⊢
      by_cases hb : (f u).testBit t = true
      · rw [if_pos hb] at hne ⊢
        have hfu : f u ≠ 0 := by intro q; rw [q] at hb; simp at hb
        obtain ⟨q1, q2, q3⟩ := h.1 u hu hfu
        have htu : t < u := by
          have : t < u + 1 := by
            apply Nat.lt_of_not_le
            intro q
            rw [Nat.testBit_lt_two_pow (Nat.lt_of_lt_of_le q1 (Nat.pow_le_pow_right (by omega) q))] at hb
            cases hb
          omega
        refine ⟨Nat.xor_lt_two_pow q1 (Nat.lt_of_lt_of_le hlt (Nat.pow_le_pow_right (by omega) (by omega))), ?_, q3⟩
        rw [Nat.testBit_xor, q2, red_head h hu hfu s]
        rfl
      · rw [if_neg hb] at hne ⊢
        exact h.1 u hu hne
  · have nz : ∀ w, w < 8 → w ≠ t → adf f (red f s) t w ≠ 0 → f w ≠ 0 := by
      intro w hw hwt hn q
      apply hn
      simp [adf, hwt, q]
    by_cases hut : u = t
    · subst hut
      have e : adf f (red f s) u u = red f s := by simp [adf]
      rw [e]
      exact red_head h hv (nz v hv (fun q => huv q.symm) hnv) s
    · have hfu := nz u hu hut hnu
      have e : adf f (red f s) t u = if (f u).testBit t then f u ^^^ red f s else f u := by simp [adf, hut]
      rw [e]
      by_cases hvt : v = t
      · subst hvt
        by_cases hb : (f u).testBit v = true
        · rw [if_pos hb, Nat.testBit_xor, hb, hr]; rfl
        · rw [if_neg hb]; simpa using hb
      · have hfv := nz v hv hvt hnv
        have h1 := h.2 u hu v hv huv hfu hfv
        split
        · rw [Nat.testBit_xor, h1, red_head h hv hfv s]; rfl
        · exact h1
theorem rkT_adf {f : Nat → Nat} {k r t : Nat} (h : Gb f k) (h0 : f t = 0) (hr0 : r ≠ 0) (hh : ∀ u, u < 8 → f u ≠ 0 → r.testBit u = false) : ∀ i, i ≤ 8 → rkT (adf f r t) i = rkT f i + if t < i then 1 else 0 := by
  intro i
  induction i with
  | zero => intro _; simp [rkT]
  | succ i ih =>
    intro hi
    have ih := ih (by omega)
    simp only [rkT, ih]
    by_cases hit : i = t
    · subst hit
      have e : adf f r i i = r := by simp [adf]
      simp [e, h0, hr0]
    · have e : adf f r t i = if (f i).testBit t then f i ^^^ r else f i := by simp [adf, hit]
      have e2 : (adf f r t i = 0) ↔ (f i = 0) := by
        rw [e]
        constructor
        · intro q
          by_cases hfi : f i = 0
          · exact hfi
          · exfalso
            obtain ⟨q1, q2, q3⟩ := h.1 i (by omega) hfi
            split at q
            · have := congrArg (fun z => z.testBit i) q
              simp [Nat.testBit_xor, q2, hh i (by omega) hfi] at this
            · exact hfi q
        · intro q; simp [q]
      have e3 : (if t < i + 1 then 1 else 0) = (if t < i then 1 else 0 : Nat) := by
        by_cases q : t < i
        · rw [if_pos q, if_pos (by omega)]
        · rw [if_neg q, if_neg (by omega)]
      rw [e3]
      by_cases hfi : f i = 0
      · rw [if_pos (e2.mpr hfi), if_pos hfi]
        omega
      · rw [if_neg (fun q => hfi (e2.mp q)), if_neg hfi]
        omega
theorem rkT_le (f : Nat → Nat) {k : Nat} (h : Gb f k) : ∀ i, i ≤ 8 → rkT f i ≤ i ∧ rkT f i ≤ k := by
  intro i
  induction i with
  | zero => intro _; simp [rkT]
  | succ i ih =>
    intro hi
    obtain ⟨h1, h2⟩ := ih (by omega)
    simp only [rkT]
    by_cases hfi : f i = 0
    · rw [if_pos hfi]; omega
    · rw [if_neg hfi]
      have := (h.1 i (by omega) hfi).2.2
      omega
theorem rk_le {f : Nat → Nat} {k : Nat} (h : Gb f k) : rk f ≤ k := (rkT_le f h 8 (Nat.le_refl 8)).2
theorem rk_le8 {f : Nat → Nat} {k : Nat} (h : Gb f k) : rk f ≤ 8 := (rkT_le f h 8 (Nat.le_refl 8)).1
