/-! PURE, 3: the class's small methods -/
def bI (b : Bool) : Int32 := if b then 1 else 0
theorem bI_t : bI true = 1 := rfl
theorem bI_f : bI false = 0 := rfl
theorem bI_01 (b : Bool) : bI b = 0 ∨ bI b = 1 := by cases b <;> simp [bI]
theorem bI_ne (b : Bool) : ¬ bI b = 0 ↔ b = true := by cases b <;> decide
theorem bI_eq (b : Bool) : bI b = 0 ↔ b = false := by cases b <;> decide
theorem nI_z {n : Nat} (h : n < 2 ^ 31) : nI n = 0 ↔ n = 0 := nI_eq (b := 0) h (by decide)
theorem sp_has {a j : Nat} {post : Int32 → Prop} (ha : a < 2 ^ 32) (hj : j < 32) (hp : post (bI (a.testBit j))) : wp_X10_has (nI a) (nI j) post := by
  unfold wp_X10_has
  refine ⟨fun c => ?_, fun c => ?_⟩
  · rw [(ni_hasN ha hj).mp c] at hp
    exact hp
  · rw [(ni_has ha hj).mp c] at hp
    exact hp
theorem lp_rank {I : KI} {Q : KQ} {h : Nat} {f : Nat → Nat} {post : Int32 → Prop} (hA : ∀ t, t < 8 → I (rq Q h 0) t = nI (f t)) (hb : ∀ t, t < 8 → f t < 2 ^ 31) (hp : post (nI (rk f))) : ∀ d i, i + d = 8 → wp_X7_rank_L4 I Q h post (d + 1) (nI (rkT f i)) (nI i) := by
  intro d
  induction d with
  | zero =>
    intro i hi
    have : i = 8 := by omega
    subst this
    unfold wp_X7_rank_L4
    exact br_t (nI_le (a := 8) (Nat.le_refl 8) (by decide)) hp
  | succ d ih =>
    intro i hi
    have hlt : i < 8 := by omega
    have ih := ih (i + 1) (by omega)
    unfold wp_X7_rank_L4
    refine br_f (nI_ge (b := 8) hlt (by decide)) ⟨vp_in_nI hlt (by decide), ?_⟩
    rw [nI_clamp (by omega), hA i hlt, nI_1 i]
    refine ⟨fun c => ?_, fun c => ?_⟩
    · have hf : f i ≠ 0 := fun q => c (by rw [q]; rfl)
      have e : rkT f (i + 1) = rkT f i + 1 := by simp [rkT, hf]
      rw [nI_1, ← e]
      exact ih
    · have hf : f i = 0 := (nI_z (hb i hlt)).mp c
      have e : rkT f (i + 1) = rkT f i := by simp [rkT, hf]
      rw [show nI (rkT f i) + (0 : Int32) = nI (rkT f (i + 1)) by rw [e]; exact nI_add _ 0]
      exact ih
theorem sp_rank {I : KI} {Q : KQ} {h : Nat} {f : Nat → Nat} {post : Int32 → Prop} (hA : ∀ t, t < 8 → I (rq Q h 0) t = nI (f t)) (hb : ∀ t, t < 8 → f t < 2 ^ 31) (hp : post (nI (rk f))) : wp_X7_rank I Q h post := ⟨9, lp_rank hA hb hp 8 0 rfl⟩
theorem lp_rest {I : KI} {Q : KQ} {h x : Nat} {f : Nat → Nat} {post : Int32 → Prop} (hx : x < 2 ^ 31) (hA : ∀ t, t < 8 → I (rq Q h 0) t = nI (f t)) (hp : post (nI (red f x))) : ∀ d i, i + d = 8 → wp_X7_rest_L4 I Q h (nI x) post (d + 1) (nI (rst f x i)) (nI i) := by
  intro d
  induction d with
  | zero =>
    intro i hi
    have : i = 8 := by omega
    subst this
    unfold wp_X7_rest_L4
    exact br_t (nI_le (a := 8) (Nat.le_refl 8) (by decide)) hp
  | succ d ih =>
    intro i hi
    have hlt : i < 8 := by omega
    have ih := ih (i + 1) (by omega)
    unfold wp_X7_rest_L4
    refine br_f (nI_ge (b := 8) hlt (by decide)) (sp_has (by omega) (by omega) ⟨fun c => ?_, fun c => ?_⟩)
    · have e : rst f x (i + 1) = rst f x i := by simp [rst, (bI_eq _).mp c]
      rw [nI_1, ← e]
      exact ih
    · have e : rst f x (i + 1) = rst f x i ^^^ f i := by simp [rst, (bI_ne _).mp c]
      refine ⟨vp_in_nI hlt (by decide), ?_⟩
      rw [nI_clamp (by omega), hA i hlt, nI_1, ni_xor, ← e]
      exact ih
theorem sp_rest {I : KI} {Q : KQ} {h x : Nat} {f : Nat → Nat} {post : Int32 → Prop} (hx : x < 2 ^ 31) (hA : ∀ t, t < 8 → I (rq Q h 0) t = nI (f t)) (hp : post (nI (red f x))) : wp_X7_rest I Q h (nI x) post := ⟨9, lp_rest hx hA hp 8 0 rfl⟩
theorem nI_d1 (n : Nat) : nI (n + 1) + (-1 : Int32) = nI n := pk_m1 n
theorem nI_m1 : nI 0 + (-1 : Int32) = -1 := by decide
/-- n less 1, also for 0 -/
def pI (n : Nat) : Int32 := nI n + (-1)
theorem pI_s (n : Nat) : pI (n + 1) = nI n := nI_d1 n
theorem pI_0 : pI 0 = -1 := nI_m1
theorem pI_neg : pI 0 < 0 := by decide
theorem lp_greatest {x : Nat} {post : Int32 → Prop} (hx : x < 2 ^ 31) : ∀ i, i ≤ 8 → post (if topT x i < 8 then nI (topT x i) else -1) → wp_X7_greatest_L3 (nI x) post (i + 1) (pI i) := by
  intro i
  induction i with
  | zero =>
    intro _ hp
    unfold wp_X7_greatest_L3
    simp only [topT] at hp
    exact br_t pI_neg hp
  | succ i ih =>
    intro hi hp
    unfold wp_X7_greatest_L3
    rw [pI_s]
    refine br_f (nI_pos (by omega)) (sp_has (by omega) (by omega) ⟨fun c => ?_, fun c => ?_⟩)
    · simp only [topT, (bI_eq _).mp c] at hp
      exact ih (by omega) hp
    · simp only [topT, (bI_ne _).mp c, if_true] at hp
      rw [if_pos (by omega)] at hp
      exact hp
theorem sp_greatest {x : Nat} {post : Int32 → Prop} (hx : x < 2 ^ 31) (hp : post (if topT x 8 < 8 then nI (topT x 8) else -1)) : wp_X7_greatest (nI x) post := ⟨9, lp_greatest hx 8 (Nat.le_refl 8) hp⟩
/-- the basis with a sum more, if it isn't known -/
def adS (f : Nat → Nat) (x : Nat) : Nat → Nat := if red f x = 0 then f else adf f (red f x) (topT (red f x) 8)
/-- the row while the class adds: places below i are done, but the new head -/
def adI (f : Nat → Nat) (r t i : Nat) : Nat → Nat := fun u => if u < i ∧ (f u).testBit t then f u ^^^ r else f u
theorem lp_add {Q : KQ} {h r t a : Nat} {f : Nat → Nat} {post : Int32 → KI → Prop} (I : KI) (ha : rq Q h 0 = a) (hr : r < 2 ^ 31) (ht : t < 8) (hb : ∀ u, u < 8 → f u < 2 ^ 31) (hp : ∀ g : Nat → Int32, (∀ u, u < 8 → g u = nI (if u = t then r else if (f u).testBit t then f u ^^^ r else f u)) → (∀ u, 8 ≤ u → g u = I a u) → post 1 (upk I a g)) : ∀ d i g, i + d = 8 → (∀ u, u < 8 → g u = nI (adI f r t i u)) → (∀ u, 8 ≤ u → g u = I a u) → wp_X7_add_L20 Q h (nI r) (nI t) post (d + 1) (upk I a g) (nI i) := by
  intro d
  induction d with
  | zero =>
    intro i g hi hg hg8
    have : i = 8 := by omega
    subst this
    unfold wp_X7_add_L20
    refine br_t (nI_le (a := 8) (Nat.le_refl 8) (by decide)) ⟨vp_in_nI ht (by decide), ?_⟩
    rw [ha, sti_upk, nI_clamp (by omega)]
    refine hp _ (fun u hu => ?_) (fun u hu => ?_)
    · by_cases hut : u = t
      · subst hut; simp [upd]
      · simp only [upd, hut, if_false, hg u hu, adI, hu, true_and]
    · have hut : u ≠ t := by omega
      simp only [upd, hut, if_false, hg8 u hu]
  | succ d ih =>
    intro i g hi hg hg8
    have hlt : i < 8 := by omega
    unfold wp_X7_add_L20
    rw [ha, upk_s, nI_clamp (n := i) (by omega), hg i hlt]
    have e0 : adI f r t i i = f i := by simp [adI]
    rw [e0]
    refine br_f (nI_ge (b := 8) hlt (by decide)) ⟨vp_in_nI hlt (by decide), sp_has (Nat.lt_trans (hb i hlt) (by decide)) (by omega) ⟨fun c => ?_, fun c => ?_⟩⟩
    · rw [nI_1]
      refine ih (i + 1) g (by omega) (fun u hu => ?_) hg8
      rw [hg u hu]
      congr 1
      unfold adI
      by_cases hui : u = i
      · subst hui
        simp [(bI_eq _).mp c]
      · have : (u < i + 1) ↔ (u < i) := by omega
        simp only [this]
    · refine ⟨vp_in_nI hlt (by decide), vp_in_nI hlt (by decide), ?_⟩
      rw [nI_1, sti_upk, ni_xor]
      refine ih (i + 1) _ (by omega) (fun u hu => ?_) (fun u hu => ?_)
      · by_cases hui : u = i
        · subst hui
          have hbit := (bI_ne _).mp c
          simp [upd, adI, hbit]
        · have : (u < i + 1) ↔ (u < i) := by omega
          simp only [upd, hui, if_false, hg u hu, adI, this]
      · have hui : u ≠ i := by omega
        simp only [upd, hui, if_false, hg8 u hu]
theorem Gb_lt {f : Nat → Nat} {k : Nat} (h : Gb f k) {t : Nat} (ht : t < 8) : f t < 256 := by
  by_cases q : f t = 0
  · rw [q]; decide
  · have h1 := (h.1 t ht q).1
    have h2 : 2 ^ (t + 1) ≤ 2 ^ 8 := Nat.pow_le_pow_right (by omega) (by omega)
    omega
theorem sp_add {I : KI} {Q : KQ} {h x a k : Nat} {f : Nat → Nat} {post : Int32 → KI → Prop} (ha : rq Q h 0 = a) (hG : Gb f k) (hk : k ≤ 8) (hx : x < 256) (hA : ∀ t, t < 8 → I a t = nI (f t)) (hp : ∀ g : Nat → Int32, (∀ u, u < 8 → g u = nI (adS f x u)) → (∀ u, 8 ≤ u → g u = I a u) → post (bI (decide (red f x ≠ 0))) (upk I a g)) : wp_X7_add I Q h (nI x) post := by
  have hlt : red f x < 2 ^ 8 := red_lt hG hx hk
  unfold wp_X7_add
  refine sp_rest (by omega) (by rw [ha]; exact hA) (sp_greatest (by omega) ?_)
  by_cases h0 : red f x = 0
  · have e : ¬ topT (red f x) 8 < 8 := by rw [h0]; decide
    rw [if_neg e]
    refine br_f (by decide) ?_
    have := hp (I a) (fun u hu => by rw [adS, if_pos h0]; exact hA u hu) (fun _ _ => rfl)
    rw [upk_id, decide_eq_false (by simp [h0])] at this
    exact this
  · have e : topT (red f x) 8 < 8 := by
      apply Nat.lt_of_not_le
      intro q
      apply h0
      apply Nat.eq_of_testBit_eq
      intro j
      rw [Nat.zero_testBit]
      by_cases hj : j < 8
      · exact topT_none 8 (Nat.le_refl 8) (by omega) j hj
      · exact Nat.testBit_lt_two_pow (Nat.lt_of_lt_of_le hlt (Nat.pow_le_pow_right (by omega) (by omega)))
    rw [if_pos e]
    refine br_t (nI_pos' (by omega)) ⟨9, ?_⟩
    have h3 := lp_add (Q := Q) (h := h) (r := red f x) (t := topT (red f x) 8) (f := f) (post := post) I ha (by omega) e (fun u hu => by have := Gb_lt hG hu; omega) (fun g h1 h2 => by
      have := hp g (fun u hu => by rw [adS, if_neg h0]; exact h1 u hu) h2
      rw [decide_eq_true (by simpa using h0)] at this
      exact this) 8 0 (I a) rfl (fun u hu => by rw [hA u hu]; simp [adI]) (fun _ _ => rfl)
    rw [upk_id] at h3
    exact h3
theorem topT_red {f : Nat → Nat} {k x : Nat} (hG : Gb f k) (hk : k ≤ 8) (hx : x < 2 ^ k) (h0 : red f x ≠ 0) : topT (red f x) 8 < k ∧ red f x < 2 ^ (topT (red f x) 8 + 1) ∧ (red f x).testBit (topT (red f x) 8) = true := by
  have hlt : red f x < 2 ^ k := red_lt hG hx (Nat.le_refl k)
  have hlt8 : red f x < 2 ^ 8 := Nat.lt_of_lt_of_le hlt (Nat.pow_le_pow_right (by omega) hk)
  have e : topT (red f x) 8 < 8 := by
    apply Nat.lt_of_not_le
    intro q
    apply h0
    apply Nat.eq_of_testBit_eq
    intro j
    rw [Nat.zero_testBit]
    by_cases hj : j < 8
    · exact topT_none 8 (Nat.le_refl 8) (by omega) j hj
    · exact Nat.testBit_lt_two_pow (Nat.lt_of_lt_of_le hlt8 (Nat.pow_le_pow_right (by omega) (by omega)))
  obtain ⟨h1, h2, h3⟩ := topT_some 8 (Nat.le_refl 8) e
  refine ⟨?_, lt_of_bits hlt8 (fun j q1 q2 => h3 j (by omega) q2), h2⟩
  apply Nat.lt_of_not_le
  intro q
  rw [Nat.testBit_lt_two_pow (Nat.lt_of_lt_of_le hlt (Nat.pow_le_pow_right (by omega) q))] at h2
  cases h2
theorem Gb_adS {f : Nat → Nat} {k x : Nat} (hG : Gb f k) (hk : k ≤ 8) (hx : x < 2 ^ k) : Gb (adS f x) k := by
  unfold adS
  by_cases h0 : red f x = 0
  · rw [if_pos h0]; exact hG
  · rw [if_neg h0]
    obtain ⟨h1, h2, h3⟩ := topT_red hG hk hx h0
    exact Gb_adf hG (by omega) h1 h2 h3
theorem head0 {f : Nat → Nat} {k x t : Nat} (hG : Gb f k) (ht : t < 8) (hr : (red f x).testBit t = true) : f t = 0 := by
  by_cases q : f t = 0
  · exact q
  · rw [red_head hG ht q x] at hr; cases hr
theorem Sp_adS {f : Nat → Nat} {k s : Nat} (hG : Gb f k) (hk : k ≤ 8) (hs : s < 2 ^ k) (x : Nat) : Sp (adS f s) x ↔ Sp f x ∨ Sp f (x ^^^ s) := by
  unfold adS
  by_cases h0 : red f s = 0
  · rw [if_pos h0]
    constructor
    · exact Or.inl
    · rintro (h | h)
      · exact h
      · unfold Sp at h ⊢
        rw [red_xor, h0, Nat.xor_zero] at h
        exact h
  · rw [if_neg h0]
    obtain ⟨h1, h2, h3⟩ := topT_red hG hk hs h0
    exact Sp_adf hG (by omega) (head0 hG (by omega) h3) h3 x
theorem rk_adS {f : Nat → Nat} {k s : Nat} (hG : Gb f k) (hk : k ≤ 8) (hs : s < 2 ^ k) : rk (adS f s) = rk f + if red f s = 0 then 0 else 1 := by
  unfold adS
  by_cases h0 : red f s = 0
  · rw [if_pos h0, if_pos h0]; rfl
  · rw [if_neg h0, if_neg h0]
    obtain ⟨h1, h2, h3⟩ := topT_red hG hk hs h0
    have := rkT_adf (r := red f s) hG (head0 hG (by omega) h3) h0 (fun u hu hf => red_head hG hu hf s) 8 (Nat.le_refl 8)
    rw [if_pos (by omega)] at this
    exact this
/-- ITS SUM j: the row of the sums, the greatest first -/
def rowT (f : Nat → Nat) : Nat → Nat → Nat
  | 0, _ => 0
  | i + 1, j => if f i = 0 then rowT f i j else if j = 0 then f i else rowT f i (j - 1)
theorem lp_row {I : KI} {Q : KQ} {h a : Nat} {f : Nat → Nat} {post : Int32 → Prop} (ha : rq Q h 0 = a) (hA : ∀ t, t < 8 → I a t = nI (f t)) (hb : ∀ t, t < 8 → f t < 2 ^ 31) : ∀ i j, i ≤ 8 → j < 2 ^ 31 → post (nI (rowT f i j)) → wp_X7_row_L5 I Q h post (i + 1) (nI j) (pI i) := by
  intro i
  induction i with
  | zero =>
    intro j _ _ hp
    unfold wp_X7_row_L5
    exact br_t pI_neg hp
  | succ i ih =>
    intro j hi hj hp
    have hlt : i < 8 := by omega
    unfold wp_X7_row_L5
    rw [pI_s, ha]
    refine br_f (nI_pos (by omega)) ⟨vp_in_nI hlt (by decide), ?_⟩
    rw [nI_clamp (by omega), hA i hlt]
    simp only [rowT] at hp
    refine ⟨fun c => ?_, fun c => ⟨fun c2 => ?_, fun c2 => ?_⟩⟩
    · rw [if_pos ((nI_z (hb i hlt)).mp c)] at hp
      exact ih j (by omega) hj hp
    · have hf : ¬ f i = 0 := fun q => c (by rw [q]; rfl)
      have hj0 : ¬ j = 0 := fun q => c2 (by rw [q]; rfl)
      rw [if_neg hf, if_neg hj0] at hp
      obtain ⟨j', rfl⟩ : ∃ j', j = j' + 1 := ⟨j - 1, by omega⟩
      rw [nI_d1]
      exact ih j' (by omega) (by omega) hp
    · have hf : ¬ f i = 0 := fun q => c (by rw [q]; rfl)
      rw [if_neg hf, if_pos ((nI_z hj).mp c2)] at hp
      exact ⟨vp_in_nI hlt (by decide), hp⟩
theorem sp_row {I : KI} {Q : KQ} {h a j : Nat} {f : Nat → Nat} {post : Int32 → Prop} (ha : rq Q h 0 = a) (hA : ∀ t, t < 8 → I a t = nI (f t)) (hb : ∀ t, t < 8 → f t < 2 ^ 31) (hj : j < 2 ^ 31) (hp : post (nI (rowT f 8 j))) : wp_X7_row I Q h (nI j) post := ⟨9, lp_row ha hA hb 8 j (Nat.le_refl 8) hj hp⟩
/-- ITS SUMS j added, for each bit j of a number -/
def mixT (f : Nat → Nat) : Nat → Nat → Nat
  | 0, _ => 0
  | i + 1, b => if f i = 0 then mixT f i b else (if b.testBit 0 then f i else 0) ^^^ mixT f i (b / 2)
theorem ni_shr1 {n : Nat} (h : n < 2 ^ 31) : nI n >>> ((1 : Int32) &&& 31) = nI (n / 2) := pk_shrN h _ 1 (by decide)
theorem lp_mixed {I : KI} {Q : KQ} {h a : Nat} {f : Nat → Nat} {post : Int32 → Prop} (ha : rq Q h 0 = a) (hA : ∀ t, t < 8 → I a t = nI (f t)) (hb : ∀ t, t < 8 → f t < 2 ^ 31) : ∀ i b m, i ≤ 8 → b < 2 ^ 31 → post (nI (m ^^^ mixT f i b)) → wp_X7_mixed_L8 I Q h post (i + 1) (nI m) (nI b) (pI i) := by
  intro i
  induction i with
  | zero =>
    intro b m _ _ hp
    unfold wp_X7_mixed_L8
    simp only [mixT, Nat.xor_zero] at hp
    exact br_t pI_neg hp
  | succ i ih =>
    intro b m hi hbb hp
    have hlt : i < 8 := by omega
    unfold wp_X7_mixed_L8
    rw [pI_s, ha]
    refine br_f (nI_pos (by omega)) ⟨vp_in_nI hlt (by decide), ?_⟩
    rw [nI_clamp (by omega), hA i hlt]
    simp only [mixT] at hp
    refine ⟨fun c => ?_, fun c => ?_⟩
    · rw [if_pos ((nI_z (hb i hlt)).mp c)] at hp
      exact ih b m (by omega) hbb hp
    · have hf : ¬ f i = 0 := fun q => c (by rw [q]; rfl)
      rw [if_neg hf] at hp
      refine sp_has (j := 0) (by omega) (by omega) ⟨fun c2 => ?_, fun c2 => ⟨vp_in_nI hlt (by decide), ?_⟩⟩
      · rw [(bI_eq _).mp c2] at hp
        rw [ni_shr1 hbb, show nI m ^^^ (0 : Int32) = nI (m ^^^ 0) from ni_xor m 0]
        refine ih (b / 2) (m ^^^ 0) (by omega) (by omega) ?_
        simpa [Nat.xor_assoc] using hp
      · rw [(bI_ne _).mp c2] at hp
        rw [ni_shr1 hbb, ni_xor]
        refine ih (b / 2) (m ^^^ f i) (by omega) (by omega) ?_
        rw [Nat.xor_assoc]
        simpa using hp
theorem sp_mixed {I : KI} {Q : KQ} {h a b : Nat} {f : Nat → Nat} {post : Int32 → Prop} (ha : rq Q h 0 = a) (hA : ∀ t, t < 8 → I a t = nI (f t)) (hb : ∀ t, t < 8 → f t < 2 ^ 31) (hbb : b < 2 ^ 31) (hp : post (nI (mixT f 8 b))) : wp_X7_mixed I Q h (nI b) post := ⟨9, lp_mixed ha hA hb 8 b 0 (Nat.le_refl 8) hbb (by rw [Nat.zero_xor]; exact hp)⟩
/-- the tokens that it tells -/
def toldT (f : Nat → Nat) : Nat → Nat
  | 0 => 0
  | i + 1 => if f i = 2 ^ i then toldT f i ||| 2 ^ i else toldT f i
theorem lp_told {I : KI} {Q : KQ} {h a : Nat} {f : Nat → Nat} {post : Int32 → Prop} (ha : rq Q h 0 = a) (hA : ∀ t, t < 8 → I a t = nI (f t)) (hb : ∀ t, t < 8 → f t < 2 ^ 31) (hp : post (nI (toldT f 8))) : ∀ d i, i + d = 8 → wp_X7_told_L4 I Q h post (d + 1) (nI (toldT f i)) (nI i) := by
  intro d
  induction d with
  | zero =>
    intro i hi
    have : i = 8 := by omega
    subst this
    unfold wp_X7_told_L4
    exact br_t (nI_le (a := 8) (Nat.le_refl 8) (by decide)) hp
  | succ d ih =>
    intro i hi
    have hlt : i < 8 := by omega
    have ih := ih (i + 1) (by omega)
    have h2 : 2 ^ i < 2 ^ 31 := Nat.pow_lt_pow_right (by omega) (by omega)
    unfold wp_X7_told_L4
    refine br_f (nI_ge (b := 8) hlt (by decide)) ⟨vp_in_nI hlt (by decide), ?_⟩
    rw [ha, nI_clamp (by omega), hA i hlt, nI_1, ni_shl1 i (by omega), nI_eq (hb i hlt) h2]
    refine ⟨fun c => ?_, fun c => ⟨vp_in_nI hlt (by decide), ?_⟩⟩
    · have e : toldT f (i + 1) = toldT f i := by simp [toldT, c]
      rw [e] at ih
      exact ih
    · have e : toldT f (i + 1) = toldT f i ||| 2 ^ i := by simp [toldT, c]
      rw [c, ni_or, ← e]
      exact ih
theorem sp_told {I : KI} {Q : KQ} {h a : Nat} {f : Nat → Nat} {post : Int32 → Prop} (ha : rq Q h 0 = a) (hA : ∀ t, t < 8 → I a t = nI (f t)) (hb : ∀ t, t < 8 → f t < 2 ^ 31) (hp : post (nI (toldT f 8))) : wp_X7_told I Q h post := ⟨9, lp_told ha hA hb hp 8 0 rfl⟩
theorem lp_empty {Q : KQ} {h a : Nat} {post : KI → Prop} (I : KI) (ha : rq Q h 0 = a) (hp : ∀ g : Nat → Int32, (∀ u, u < 8 → g u = 0) → post (upk I a g)) : ∀ d i g, i + d = 8 → (∀ u, u < i → g u = 0) → wp_X7_empty_L2 Q h post (d + 1) (upk I a g) (nI i) := by
  intro d
  induction d with
  | zero =>
    intro i g hi hg
    have : i = 8 := by omega
    subst this
    unfold wp_X7_empty_L2
    exact br_t (nI_le (a := 8) (Nat.le_refl 8) (by decide)) (hp g hg)
  | succ d ih =>
    intro i g hi hg
    have hlt : i < 8 := by omega
    unfold wp_X7_empty_L2
    refine br_f (nI_ge (b := 8) hlt (by decide)) ⟨vp_in_nI hlt (by decide), ?_⟩
    rw [ha, nI_clamp (by omega), nI_1, sti_upk]
    refine ih (i + 1) _ (by omega) (fun u hu => ?_)
    by_cases hui : u = i
    · subst hui; simp [upd]
    · simp only [upd, hui, if_false]
      exact hg u (by omega)
theorem sp_empty {I : KI} {Q : KQ} {h a : Nat} {post : KI → Prop} (ha : rq Q h 0 = a) (hp : ∀ g : Nat → Int32, (∀ u, u < 8 → g u = 0) → post (upk I a g)) : wp_X7_empty I Q h post := ⟨9, by
  have := lp_empty (Q := Q) (h := h) (post := post) I ha hp 8 0 (I a) rfl (fun u hu => absurd hu (Nat.not_lt_zero u))
  rw [upk_id] at this
  exact this⟩
theorem sp_stake {I : KI} {Q : KQ} {h h1 a a1 : Nat} {post : KI → Prop} (ha : rq Q h 0 = a) (ha1 : rq Q h1 0 = a1) (hp : ∀ g : Nat → Int32, (∀ u, u < 8 → g u = I a1 u) → post (upk I a g)) : wp_X7_take I Q h h1 post := by
  unfold wp_X7_take
  rw [ha, ha1]
  exact hp _ (fun u hu => pk_cpy_in (h := Nat.zero_le u) (h2 := by show u < 0 + 8; omega) |>.trans (by show I a1 (0 + (u - 0)) = _; rw [Nat.zero_add, Nat.sub_zero]))
/-- left over -/
theorem sp_floorMod {a b : Nat} {post : Int32 → Prop} (ha : a < 2 ^ 31) (hb : b < 2 ^ 31) (h0 : 0 < b) (hp : post (nI (a % b))) : wp_J9_floorMod_7cf53 (nI a) (nI b) post := by
  unfold wp_J9_floorMod_7cf53
  refine ⟨nI_ne0 h0 hb, ?_⟩
  rw [pk_rem ha h0 hb, ni_xor]
  exact br_t (nI_pos' (Nat.xor_lt_two_pow ha hb)) hp
theorem sp_leftOver {a b : Nat} {post : Int32 → Prop} (ha : a < 2 ^ 31) (hb : b < 2 ^ 31) (h0 : 0 < b) (hp : post (nI (a % b))) : wp_X10_leftOver (nI a) (nI b) post := by
  unfold wp_X10_leftOver
  exact br_t (nI_le (a := 1) h0 hb) (sp_floorMod ha hb h0 hp)
/-- the draw -/
def chg (d : Nat) : Nat := (d * 1103515245 + 12345) % 2 ^ 31
theorem sp_changed {d : Nat} {post : Int32 → Prop} (hp : post (nI (chg d))) : wp_X10_changed (nI d) post := by
  unfold wp_X10_changed
  have e : ((nI d * (1103515245 : Int32)) + (12345 : Int32)) &&& (2147483647 : Int32) = nI (chg d) := by
    rw [show nI d * (1103515245 : Int32) = nI (d * 1103515245) from pk_mul d 1103515245, show nI (d * 1103515245) + (12345 : Int32) = nI (d * 1103515245 + 12345) from nI_add _ 12345]
    rw [pk_and _ 31 (by decide)]
    have e2 : (nI (d * 1103515245 + 12345)).toBitVec.toNat % 2 ^ 31 = chg d := by
      rw [ni_bv, BitVec.toNat_ofNat]
      exact Nat.mod_mod_of_dvd _ (by decide)
    rw [e2]
  rw [e]
  exact hp
theorem sp_drawn {d : Nat} {post : Int32 → Prop} (hd : d < 2 ^ 31) (hp : post (nI (d / 65536))) : wp_X10_drawn (nI d) post := by
  unfold wp_X10_drawn
  rw [pk_ushrN (by omega) _ 16 (by decide)]
  exact hp
