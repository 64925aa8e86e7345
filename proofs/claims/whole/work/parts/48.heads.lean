/-! PURE, 11: heads, its sums, what it tells, as the reference finds them -/
theorem rst_one {f : Nat → Nat} {t : Nat} (ht : t < 8) (x : Nat) (h : ∀ u, u < 8 → u ≠ t → f u ≠ 0 → x.testBit u = false) : ∀ i, i ≤ 8 → rst f x i = if t < i ∧ x.testBit t = true then x ^^^ f t else x := by
  intro i
  induction i with
  | zero => intro _; simp [rst]
  | succ i ih =>
    intro hi
    have ih := ih (by omega)
    simp only [rst]
    by_cases hit : i = t
    · subst hit
      have ih2 : rst f x i = x := by rw [ih, if_neg (fun q => Nat.lt_irrefl i q.1)]
      rw [ih2]
      by_cases hb : x.testBit i = true
      · rw [if_pos hb, if_pos ⟨by omega, hb⟩]
      · rw [if_neg hb, if_neg (fun q => hb q.2)]
    · have e : (t < i + 1 ∧ x.testBit t = true) ↔ (t < i ∧ x.testBit t = true) := ⟨fun q => ⟨by omega, q.2⟩, fun q => ⟨by omega, q.2⟩⟩
      have e2 : (if x.testBit i then rst f x i ^^^ f i else rst f x i) = rst f x i := by
        by_cases hb : x.testBit i = true
        · have hz : f i = 0 := by
            by_cases q : f i = 0
            · exact q
            · rw [h i (by omega) hit q] at hb; cases hb
          rw [if_pos hb, hz, Nat.xor_zero]
        · rw [if_neg hb]
      rw [e2, ih]
      by_cases q : t < i ∧ x.testBit t = true
      · rw [if_pos q, if_pos (e.mpr q)]
      · rw [if_neg q, if_neg (fun z => q (e.mp z))]
theorem red_one {f : Nat → Nat} {t : Nat} (ht : t < 8) (x : Nat) (h : ∀ u, u < 8 → u ≠ t → f u ≠ 0 → x.testBit u = false) (hb : x.testBit t = true) : red f x = x ^^^ f t := by
  rw [red, rst_one ht x h 8 (Nat.le_refl 8), if_pos ⟨ht, hb⟩]
theorem red_own {f : Nat → Nat} {k t : Nat} (hG : Gb f k) (ht : t < 8) (h0 : f t ≠ 0) : red f (f t) = 0 := by
  rw [red_one ht (f t) (fun u hu hut hf => hG.2 t ht u hu (fun q => hut q.symm) h0 hf) (hG.1 t ht h0).2.1, Nat.xor_self]
theorem bit_in {x t : Nat} (h1 : 2 ^ t ≤ x) (h2 : x < 2 ^ (t + 1)) : x.testBit t = true := by
  rw [Nat.testBit_eq_decide_div_mod_eq]
  have e : x / 2 ^ t = 1 := by
    have hp := Nat.two_pow_pos t
    have h3 : 2 ^ (t + 1) = 2 * 2 ^ t := by rw [Nat.pow_succ, Nat.mul_comm]
    apply Nat.div_eq_of_lt_le
    · omega
    · omega
  rw [e]
  rfl
theorem bit_out {x n j : Nat} (h : x < 2 ^ n) (hj : n ≤ j) : x.testBit j = false := Nat.testBit_lt_two_pow (Nat.lt_of_lt_of_le h (Nat.pow_le_pow_right (by omega) hj))
theorem red_head2 {f : Nat → Nat} {k t x : Nat} (hG : Gb f k) (ht : t < 8) (h1 : 2 ^ t ≤ x) (h2 : x < 2 ^ (t + 1)) (hr : red f x = 0) : f t ≠ 0 := by
  intro h0
  have hb := bit_in h1 h2
  have key : ∀ i, i ≤ 8 → (rst f x i).testBit t = true := by
    intro i
    induction i with
    | zero => intro _; exact hb
    | succ i ih =>
      intro hi
      have ih := ih (by omega)
      simp only [rst]
      by_cases hx : x.testBit i = true
      · rw [if_pos hx, Nat.testBit_xor, ih]
        have hit : i ≤ t := by
          apply Nat.le_of_not_lt
          intro q
          rw [bit_out h2 q] at hx
          cases hx
        have : (f i).testBit t = false := by
          by_cases q : i = t
          · rw [q, h0]; exact Nat.zero_testBit t
          · by_cases z : f i = 0
            · rw [z]; exact Nat.zero_testBit t
            · exact bit_out (hG.1 i (by omega) z).1 (by omega)
        rw [this]
        rfl
      · rw [if_neg hx]; exact ih
  have := key 8 (Nat.le_refl 8)
  rw [red] at hr
  rw [hr, Nat.zero_testBit] at this
  cases this
theorem red_sum {f : Nat → Nat} {t x : Nat} (ht : t < 8) (h1 : 2 ^ t ≤ x) (h2 : x < 2 ^ (t + 1)) (hr : red f x = 0) (h : ∀ u, u < 8 → u ≠ t → f u ≠ 0 → x.testBit u = false) : x = f t := by
  rw [red_one ht x h (bit_in h1 h2)] at hr
  exact xz hr
theorem red_tok {f : Nat → Nat} {t : Nat} (ht : t < 8) : red f (2 ^ t) = 0 ↔ f t = 2 ^ t := by
  have h : ∀ u, u < 8 → u ≠ t → f u ≠ 0 → (2 ^ t).testBit u = false := fun u _ hut _ => by
    rw [Nat.testBit_two_pow]
    exact decide_eq_false (fun q => hut q.symm)
  rw [red_one ht _ h (by rw [Nat.testBit_two_pow]; exact decide_eq_true rfl)]
  constructor
  · intro q; exact (xz q).symm
  · intro q; rw [q, Nat.xor_self]
def hdT (f : Nat → Nat) : Nat → Nat
  | 0 => 0
  | i + 1 => if f i = 0 then hdT f i else hdT f i ||| 2 ^ i
theorem hdT_bit (f : Nat → Nat) : ∀ i j, (hdT f i).testBit j = decide (j < i ∧ f j ≠ 0) := by
  intro i
  induction i with
  | zero => intro j; simp [hdT]
  | succ i ih =>
    intro j
    simp only [hdT]
    by_cases hc : f i = 0
    · rw [if_pos hc, ih]
      by_cases hij : j = i
      · subst hij; simp [hc]
      · have e : (j < i + 1) ↔ (j < i) := by omega
        simp [e]
    · rw [if_neg hc, Nat.testBit_or, ih, Nat.testBit_two_pow]
      by_cases hij : i = j
      · subst hij; simp [hc]
      · have e : (j < i + 1) ↔ (j < i) := by omega
        simp [hij, e]
theorem hdT_lt (f : Nat → Nat) (i : Nat) : hdT f i < 2 ^ i := by
  apply Nat.lt_pow_two_of_testBit
  intro j hj
  rw [hdT_bit]
  exact decide_eq_false (fun q => by omega)
theorem lp_heads1 {I : KI} {Q : KQ} {v k t : Nat} {f : Nat → Nat} {kk : Int32 → Prop} (hM : MdQ Q) (hG : Gb f k) (hK : KnIs (I 288) v (kn f)) (hv : v < 6) (ht : t < 8) (hp : kk (nI (hdT f (t + 1)))) : ∀ d x (b : Bool), x + d = 2 ^ (t + 1) → 2 ^ t ≤ x → (b = true ↔ ∃ y, 2 ^ t ≤ y ∧ y < x ∧ red f y = 0) → wp_X11_heads_L19 I Q 287 (nI v) (nI t) kk (d + 1) (nI (hdT f t ||| if b then 2 ^ t else 0)) (nI x) := by
  have h2t : 2 ^ (t + 1) ≤ 2 ^ 8 := Nat.pow_le_pow_right (by omega) (by omega)
  have e2 : (2 : Int32) <<< (nI t &&& 31) = nI (2 ^ (t + 1)) := by
    have : ∀ t, t < 8 → (2 : Int32) <<< (nI t &&& 31) = nI (2 ^ (t + 1)) := by decide +kernel
    exact this t ht
  intro d
  induction d with
  | zero =>
    intro x b hx h1 hb
    have : x = 2 ^ (t + 1) := by omega
    subst this
    unfold wp_X11_heads_L19
    rw [e2]
    refine br_t (nI_le (Nat.le_refl _) (by omega)) ?_
    have e : (hdT f t ||| if b then 2 ^ t else 0) = hdT f (t + 1) := by
      simp only [hdT]
      by_cases h0 : f t = 0
      · have : b = false := by
          cases hq : b with
          | false => rfl
          | true =>
            obtain ⟨y, q1, q2, q3⟩ := hb.mp hq
            exact absurd h0 (red_head2 hG ht q1 q2 q3)
        rw [if_pos h0, this]
        simp
      · have : b = true := hb.mpr ⟨f t, by
            have := (hG.1 t ht h0).2.1
            exact Nat.ge_two_pow_of_testBit this, (hG.1 t ht h0).1, red_own hG ht h0⟩
        rw [if_neg h0, this]
        simp
    rw [e]
    exact hp
  | succ d ih =>
    intro x b hx h1 hb
    unfold wp_X11_heads_L19
    rw [e2, nI_1, ni_shl1 t (by omega)]
    refine br_f (nI_ge (by omega) (by omega)) (ms_known hM hK hv (by omega) ⟨fun c => ?_, fun c => ?_⟩)
    · have hz := of_decide_eq_false ((bI_eq _).mp c)
      rw [show (0 : Int32) = nI 0 from rfl, ni_or, Nat.or_zero]
      refine ih (x + 1) b (by omega) (by omega) ⟨fun q => ?_, fun q => ?_⟩
      · obtain ⟨y, q1, q2, q3⟩ := hb.mp q
        exact ⟨y, q1, by omega, q3⟩
      · obtain ⟨y, q1, q2, q3⟩ := q
        refine hb.mpr ⟨y, q1, ?_, q3⟩
        by_cases hyx : y = x
        · subst hyx; exact absurd q3 hz
        · omega
    · have hz := of_decide_eq_true ((bI_ne _).mp c)
      rw [ni_or]
      have e : (hdT f t ||| if b then 2 ^ t else 0) ||| 2 ^ t = hdT f t ||| if true then 2 ^ t else 0 := by
        rw [if_pos rfl]
        cases b with
        | true => rw [if_pos rfl, Nat.or_assoc, Nat.or_self]
        | false => simp
      rw [e]
      exact ih (x + 1) true (by omega) (by omega) ⟨fun _ => ⟨x, h1, by omega, hz⟩, fun _ => rfl⟩
theorem lp_heads {I : KI} {Q : KQ} {v k : Nat} {f : Nat → Nat} {post : Int32 → Prop} (hM : MdQ Q) (hG : Gb f k) (hk : k ≤ 8) (hI : I 288 1 = nI k) (hK : KnIs (I 288) v (kn f)) (hv : v < 6) (hp : post (nI (hdT f k))) : ∀ d i, i + d = k → wp_X11_heads_L4 I Q 287 (nI v) post (d + 1) (nI (hdT f i)) (nI i) := by
  intro d
  induction d with
  | zero =>
    intro i hi
    have : i = k := by omega
    subst this
    unfold wp_X11_heads_L4
    rw [hM.now, tc1, hI]
    exact br_t (nI_le (Nat.le_refl _) (by omega)) hp
  | succ d ih =>
    intro i hi
    have ih := ih (i + 1) (by omega)
    unfold wp_X11_heads_L4
    rw [hM.now, tc1, hI, ni_shl1 i (by omega)]
    have h2 : 2 ^ (i + 1) = 2 ^ i + 2 ^ i := by rw [Nat.pow_succ]; omega
    refine br_f (nI_ge (by omega) (by omega)) ⟨2 ^ i + 1, ?_⟩
    have := lp_heads1 (kk := fun x2 => wp_X11_heads_L4 I Q 287 (nI v) post (d + 1) x2 (nI i + 1)) hM hG hK hv (show i < 8 by omega) (by rw [nI_1]; exact ih) (2 ^ i) (2 ^ i) false (by omega) (Nat.le_refl _) ⟨fun q => (by cases q), fun ⟨y, q1, q2, _⟩ => (by omega)⟩
    simpa using this
theorem ms_heads {I : KI} {Q : KQ} {v k : Nat} {f : Nat → Nat} {post : Int32 → Prop} (hM : MdQ Q) (hG : Gb f k) (hk : k ≤ 8) (hI : I 288 1 = nI k) (hK : KnIs (I 288) v (kn f)) (hv : v < 6) (hp : post (nI (hdT f k))) : wp_X11_heads I Q 287 (nI v) post := ⟨k + 1, lp_heads hM hG hk hI hK hv hp k 0 (by omega)⟩
theorem lp_sumWith {I : KI} {Q : KQ} {v k t : Nat} {f : Nat → Nat} {post : Int32 → Prop} (hM : MdQ Q) (hG : Gb f k) (hk : k ≤ 8) (hK : KnIs (I 288) v (kn f)) (hv : v < 6) (ht : t < 8) (h0 : f t ≠ 0) (hp : post (nI (f t))) : ∀ d x, x + d = f t → 2 ^ t ≤ x → wp_X11_sumWith_L5 I Q 287 (nI v) (nI (andn (hdT f k) (2 ^ t))) post (d + 1) (nI x) := by
  have hlt := (hG.1 t ht h0).1
  have h2t : 2 ^ (t + 1) ≤ 2 ^ 8 := Nat.pow_le_pow_right (by omega) (by omega)
  have hd : hdT f k < 2 ^ 8 := Nat.lt_of_lt_of_le (hdT_lt f k) (Nat.pow_le_pow_right (by omega) hk)
  have hbit : ∀ u, (andn (hdT f k) (2 ^ t)).testBit u = decide (u < k ∧ f u ≠ 0 ∧ u ≠ t) := by
    intro u
    rw [andn_bit, hdT_bit, Nat.testBit_two_pow, ← Bool.decide_eq_true (b := !decide (t = u)), ← Bool.decide_and]
    refine decide_eq_decide.mpr ⟨fun q => ?_, fun q => ?_⟩
    · have := q.2
      simp at this
      exact ⟨q.1.1, q.1.2, fun z => this z.symm⟩
    · refine ⟨⟨q.1, q.2.1⟩, ?_⟩
      simp
      exact fun z => q.2.2 z.symm
  have hand : ∀ x, x < 256 → ((nI x &&& nI (andn (hdT f k) (2 ^ t)) = (0 : Int32)) ↔ ∀ u, u < 8 → u ≠ t → f u ≠ 0 → x.testBit u = false) := by
    intro x hx
    rw [ni_and, nI_z (Nat.lt_of_le_of_lt Nat.and_le_left (by omega))]
    constructor
    · intro q u hu hut hf
      have := congrArg (fun z => z.testBit u) q
      simp only [Nat.testBit_and, Nat.zero_testBit, hbit] at this
      rw [decide_eq_true ⟨(hG.1 u hu hf).2.2, hf, hut⟩, Bool.and_true] at this
      exact this
    · intro q
      apply Nat.eq_of_testBit_eq
      intro u
      rw [Nat.testBit_and, Nat.zero_testBit, hbit]
      by_cases c : u < k ∧ f u ≠ 0 ∧ u ≠ t
      · rw [q u (by omega) c.2.2 c.2.1, Bool.false_and]
      · rw [decide_eq_false c, Bool.and_false]
  intro d
  induction d with
  | zero =>
    intro x hx h1
    have : x = f t := by omega
    subst this
    unfold wp_X11_sumWith_L5
    refine ms_known hM hK hv (by omega) (br_f ?_ ?_)
    · rw [bI_eq]
      intro q
      exact of_decide_eq_false q (red_own hG ht h0)
    · exact br_t ((hand _ (by omega)).mpr (fun u hu hut hf => hG.2 t ht u hu (fun q => hut q.symm) h0 hf)) hp
  | succ d ih =>
    intro x hx h1
    unfold wp_X11_sumWith_L5
    rw [nI_1]
    refine ms_known hM hK hv (by omega) ⟨fun _ => ih (x + 1) (by omega) (by omega), fun c => ⟨fun c2 => ?_, fun _ => ih (x + 1) (by omega) (by omega)⟩⟩
    have := red_sum ht h1 (by omega) (of_decide_eq_true ((bI_ne _).mp c)) ((hand x (by omega)).mp c2)
    omega
theorem lp_sumOf {I : KI} {Q : KQ} {v k : Nat} {f : Nat → Nat} {post : Int32 → Prop} (hM : MdQ Q) (hG : Gb f k) (hk : k ≤ 8) (hI : I 288 1 = nI k) (hK : KnIs (I 288) v (kn f)) (hv : v < 6) : ∀ i j, i ≤ k → j < 2 ^ 31 → post (nI (rowT f i j)) → wp_X11_sumOf_L19 (nI (hdT f k)) post (fun x5 => wp_X11_sumWith I Q 287 (nI v) x5 (nI (hdT f k) &&& (((1 : Int32) <<< (x5 &&& 31)) ^^^ (-1))) (fun r10 => post r10)) (i + 1) (nI j) (pI i) := by
  have hd : hdT f k < 2 ^ 8 := Nat.lt_of_lt_of_le (hdT_lt f k) (Nat.pow_le_pow_right (by omega) hk)
  intro i
  induction i with
  | zero =>
    intro j _ _ hp
    unfold wp_X11_sumOf_L19
    exact br_t pI_neg hp
  | succ i ih =>
    intro j hi hj hp
    unfold wp_X11_sumOf_L19
    rw [pI_s]
    simp only [rowT] at hp
    have hb : (hdT f k).testBit i = decide (f i ≠ 0) := by
      rw [hdT_bit]
      exact decide_eq_decide.mpr ⟨fun q => q.2, fun q => ⟨by omega, q⟩⟩
    refine br_f (nI_pos (by omega)) (ms_has (by omega) (by omega) ⟨fun c => ?_, fun c => ⟨fun c2 => ?_, fun c2 => ?_⟩⟩)
    · have hz : f i = 0 := by
        have := (bI_eq _).mp c
        rw [hb] at this
        exact Decidable.not_not.mp (of_decide_eq_false this)
      rw [if_pos hz] at hp
      exact ih j (by omega) hj hp
    · have hf : f i ≠ 0 := by
        have := (bI_ne _).mp c
        rw [hb] at this
        exact of_decide_eq_true this
      have hj0 : ¬ j = 0 := fun q => c2 (by rw [q]; rfl)
      rw [if_neg hf, if_neg hj0] at hp
      obtain ⟨j', rfl⟩ : ∃ j', j = j' + 1 := ⟨j - 1, by omega⟩
      rw [nI_d1]
      exact ih j' (by omega) (by omega) hp
    · have hf : f i ≠ 0 := by
        have := (bI_ne _).mp c
        rw [hb] at this
        exact of_decide_eq_true this
      rw [if_neg hf, if_pos ((nI_z hj).mp c2)] at hp
      have hge : 2 ^ i ≤ f i := Nat.ge_two_pow_of_testBit (hG.1 i (by omega) hf).2.1
      refine ⟨f i - 2 ^ i + 1, ?_⟩
      rw [ni_shl1 i (by omega), ni_andn]
      exact lp_sumWith hM hG hk hK hv (by omega) hf hp (f i - 2 ^ i) (2 ^ i) (by omega) (Nat.le_refl _)
theorem rowT_k {f : Nat → Nat} {k : Nat} (hG : Gb f k) (j : Nat) : ∀ i, k ≤ i → i ≤ 8 → rowT f i j = rowT f k j := by
  intro i
  induction i with
  | zero => intro h _; rw [show k = 0 by omega]
  | succ i ih =>
    intro h hi
    by_cases hik : k = i + 1
    · rw [hik]
    · have hz : f i = 0 := by
        by_cases q : f i = 0
        · exact q
        · have := (hG.1 i (by omega) q).2.2; omega
      simp only [rowT]
      rw [if_pos hz]
      exact ih (by omega) (by omega)
theorem ms_sumOf {I : KI} {Q : KQ} {v k j : Nat} {f : Nat → Nat} {post : Int32 → Prop} (hM : MdQ Q) (hG : Gb f k) (hk : k ≤ 8) (h1 : 1 ≤ k) (hI : I 288 1 = nI k) (hK : KnIs (I 288) v (kn f)) (hv : v < 6) (hj : j < 2 ^ 31) (hp : post (nI (rowT f 8 j))) : wp_X11_sumOf I Q 287 (nI v) (nI j) post := by
  unfold wp_X11_sumOf
  refine ms_heads hM hG hk hI hK hv ⟨k + 1, ?_⟩
  rw [rowT_k hG j 8 hk (Nat.le_refl 8)] at hp
  have := lp_sumOf hM hG hk hI hK hv k j (Nat.le_refl k) hj hp
  rw [hM.now, tc1, hI, show nI k - (1 : Int32) = pI k by
    obtain ⟨k', rfl⟩ : ∃ k', k = k' + 1 := ⟨k - 1, by omega⟩
    rw [pI_s]; exact pk_sub (a := k' + 1) (b := 1) (by omega)]
  exact this
theorem lp_tells {I : KI} {Q : KQ} {v k : Nat} {f : Nat → Nat} {post : Int32 → Prop} (hM : MdQ Q) (hk : k ≤ 8) (hI : I 288 1 = nI k) (hK : KnIs (I 288) v (kn f)) (hv : v < 6) (hp : post (nI (toldT f k))) : ∀ d i, i + d = k → wp_X11_tells_L4 I Q 287 (nI v) post (d + 1) (nI (toldT f i)) (nI i) := by
  intro d
  induction d with
  | zero =>
    intro i hi
    have : i = k := by omega
    subst this
    unfold wp_X11_tells_L4
    rw [hM.now, tc1, hI]
    exact br_t (nI_le (Nat.le_refl _) (by omega)) hp
  | succ d ih =>
    intro i hi
    have ih := ih (i + 1) (by omega)
    have h2 : 2 ^ i < 2 ^ 8 := Nat.pow_lt_pow_right (by omega) (by omega)
    unfold wp_X11_tells_L4
    rw [hM.now, tc1, hI, ni_shl1 i (by omega), nI_1]
    refine br_f (nI_ge (by omega) (by omega)) (ms_known hM hK hv h2 ⟨fun c => ?_, fun c => ?_⟩)
    · have hz := of_decide_eq_false ((bI_eq _).mp c)
      rw [red_tok (by omega)] at hz
      rw [show (0 : Int32) = nI 0 from rfl, ni_or, Nat.or_zero]
      simp only [toldT, hz, if_false] at ih
      exact ih
    · have hz := of_decide_eq_true ((bI_ne _).mp c)
      rw [red_tok (by omega)] at hz
      rw [ni_or]
      simp only [toldT, hz, if_true] at ih
      exact ih
theorem toldT_k {f : Nat → Nat} {k : Nat} (hG : Gb f k) (hk : k ≤ 8) : toldT f k = toldT f 8 := by
  apply Nat.eq_of_testBit_eq
  intro j
  rw [toldT_bit, toldT_bit]
  refine decide_eq_decide.mpr ⟨fun q => ⟨by omega, q.2⟩, fun q => ⟨?_, q.2⟩⟩
  exact (hG.1 j q.1 (by rw [q.2]; exact Nat.pos_iff_ne_zero.mp (Nat.two_pow_pos j))).2.2
theorem ms_tells {I : KI} {Q : KQ} {v k : Nat} {f : Nat → Nat} {post : Int32 → Prop} (hM : MdQ Q) (hG : Gb f k) (hk : k ≤ 8) (hI : I 288 1 = nI k) (hK : KnIs (I 288) v (kn f)) (hv : v < 6) (hp : post (nI (toldT f 8))) : wp_X11_tells I Q 287 (nI v) post := ⟨k + 1, lp_tells hM hk hI hK hv (by rw [toldT_k hG hk]; exact hp) k 0 (by omega)⟩
