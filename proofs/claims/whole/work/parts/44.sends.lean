/-! PURE, 6: how many sums are known -/
theorem xor2 (a c b : Nat) (hb : b < 2) : (2 * a) ^^^ (2 * c + b) = 2 * (a ^^^ c) + b := by
  apply Nat.eq_of_testBit_eq
  intro j
  rw [Nat.testBit_xor]
  cases j with
  | zero =>
    simp only [Nat.testBit_zero]
    rw [show 2 * a % 2 = 0 by omega, show (2 * c + b) % 2 = b by omega, show (2 * (a ^^^ c) + b) % 2 = b by omega]
    simp
  | succ j =>
    rw [Nat.testBit_succ, Nat.testBit_succ, Nat.testBit_succ, show 2 * a / 2 = a by omega, show (2 * c + b) / 2 = c by omega, show (2 * (a ^^^ c) + b) / 2 = a ^^^ c by omega, Nat.testBit_xor]
theorem xor2' (a c b : Nat) (hb : b < 2) : (2 * a + 1) ^^^ (2 * c + b) = 2 * (a ^^^ c) + (1 - b) := by
  apply Nat.eq_of_testBit_eq
  intro j
  rw [Nat.testBit_xor]
  cases j with
  | zero =>
    simp only [Nat.testBit_zero]
    rw [show (2 * a + 1) % 2 = 1 by omega, show (2 * c + b) % 2 = b by omega, show (2 * (a ^^^ c) + (1 - b)) % 2 = 1 - b by omega]
    rcases (show b = 0 ∨ b = 1 by omega) with rfl | rfl <;> simp
  | succ j =>
    rw [Nat.testBit_succ, Nat.testBit_succ, Nat.testBit_succ, show (2 * a + 1) / 2 = a by omega, show (2 * c + b) / 2 = c by omega, show (2 * (a ^^^ c) + (1 - b)) / 2 = a ^^^ c by omega, Nat.testBit_xor]
theorem cnt_shift (P : Nat → Bool) (s : Nat) : ∀ i q, cntT (fun x => P (x ^^^ s)) i (2 ^ i * q) = cntT P i (2 ^ i * (q ^^^ (s / 2 ^ i))) := by
  intro i
  induction i with
  | zero => intro q; simp [cntT]
  | succ i ih =>
    intro q
    have hp : 2 ^ (i + 1) = 2 * 2 ^ i := by rw [Nat.pow_succ, Nat.mul_comm]
    have e1 : 2 ^ (i + 1) * q = 2 ^ i * (2 * q) := by rw [hp, Nat.mul_comm 2, Nat.mul_assoc]
    have e2 : 2 ^ (i + 1) * q + 2 ^ i = 2 ^ i * (2 * q + 1) := by rw [e1, Nat.mul_add, Nat.mul_one]
    simp only [cntT]
    rw [e2, ih, e1, ih]
    obtain ⟨w, b, hb, hw⟩ : ∃ w b, b < 2 ∧ s / 2 ^ i = 2 * w + b := ⟨s / 2 ^ i / 2, s / 2 ^ i % 2, Nat.mod_lt _ (by omega), by omega⟩
    have hw2 : s / 2 ^ (i + 1) = w := by
      rw [Nat.pow_succ, ← Nat.div_div_eq_div_mul, hw]
      omega
    rw [hw, hw2, xor2 _ _ _ hb, xor2' _ _ _ hb]
    generalize q ^^^ w = z
    have e3 : 2 ^ (i + 1) * z = 2 ^ i * (2 * z) := by rw [hp, Nat.mul_comm 2, Nat.mul_assoc]
    have e4 : 2 ^ (i + 1) * z + 2 ^ i = 2 ^ i * (2 * z + 1) := by rw [e3, Nat.mul_add, Nat.mul_one]
    rw [e4, e3]
    rcases (show b = 0 ∨ b = 1 by omega) with rfl | rfl
    · simp
    · simp only [Nat.sub_self, Nat.add_zero]
      exact Nat.add_comm _ _
theorem cnt_or (P Q : Nat → Bool) (h : ∀ x, ¬ (P x = true ∧ Q x = true)) : ∀ i o, cntT (fun x => P x || Q x) i o = cntT P i o + cntT Q i o := by
  intro i
  induction i with
  | zero =>
    intro o
    have := h o
    simp only [cntT]
    by_cases hp : P o = true
    · have hq : Q o = false := by
        cases q : Q o
        · rfl
        · exact absurd ⟨hp, q⟩ this
      simp [hp, hq]
    · simp [hp]
  | succ i ih =>
    intro o
    simp only [cntT, ih]
    omega
theorem cnt_congr (P Q : Nat → Bool) (h : ∀ x, P x = Q x) (i o : Nat) : cntT P i o = cntT Q i o := by
  have : P = Q := funext h
  rw [this]
theorem cnt_adS {f : Nat → Nat} {k s : Nat} (hG : Gb f k) (hk : k ≤ 8) (hs : s < 2 ^ k) (hc : cntS f = 2 ^ rk f) : cntS (adS f s) = 2 ^ rk (adS f s) := by
  have h8 : s < 2 ^ 8 := Nat.lt_of_lt_of_le hs (Nat.pow_le_pow_right (by omega) hk)
  rw [rk_adS hG hk hs]
  by_cases h0 : red f s = 0
  · rw [if_pos h0]
    unfold adS
    rw [if_pos h0]
    exact hc
  · rw [if_neg h0, Nat.pow_succ, ← hc, Nat.mul_comm, Nat.two_mul]
    unfold cntS
    have e : ∀ x, decide (red (adS f s) x = 0) = (decide (red f x = 0) || decide (red f (x ^^^ s) = 0)) := by
      intro x
      rw [← Bool.decide_or]
      exact decide_eq_decide.mpr (Sp_adS hG hk hs x)
    rw [cnt_congr _ _ e, cnt_or (fun x => decide (red f x = 0)) (fun x => decide (red f (x ^^^ s) = 0)) (fun x hx => by
      simp only [decide_eq_true_eq] at hx
      rw [red_xor, hx.1, Nat.zero_xor] at hx
      exact h0 hx.2)]
    congr 1
    have := cnt_shift (fun x => decide (red f x = 0)) s 8 0
    rw [Nat.div_eq_of_lt h8] at this
    simpa using this
theorem cnt_fold {k : Nat} (hk : k ≤ 8) : ∀ (xs : List Nat) (f : Nat → Nat), Gb f k → (∀ x ∈ xs, x < 2 ^ k) → cntS f = 2 ^ rk f → cntS (xs.foldl adS f) = 2 ^ rk (xs.foldl adS f) := by
  intro xs
  induction xs with
  | nil => intro f _ _ h; exact h
  | cons x xs ih =>
    intro f hG hx hc
    have hx0 := hx x List.mem_cons_self
    exact ih (adS f x) (Gb_adS hG hk hx0) (fun y hy => hx y (List.mem_cons_of_mem _ hy)) (cnt_adS hG hk hx0 hc)
/-! PURE, 7: what each node sends -/
def lowT (x : Nat) : Nat → Nat → Nat
  | 0, _ => 0
  | d + 1, i => if x.testBit i then 2 ^ i else lowT x d (i + 1)
def lowb (x : Nat) : Nat := lowT x 8 0
theorem ni_low : ∀ x, x < 256 → nI x &&& (-(nI x)) = nI (lowb x) := by decide +kernel
def andn (a b : Nat) : Nat := a ^^^ (a &&& b)
theorem andn_bit (a b j : Nat) : (andn a b).testBit j = (a.testBit j && !b.testBit j) := by
  unfold andn
  rw [Nat.testBit_xor, Nat.testBit_and]
  cases a.testBit j <;> cases b.testBit j <;> rfl
theorem andn_lt {a b n : Nat} (h : a < 2 ^ n) : andn a b < 2 ^ n := Nat.xor_lt_two_pow h (Nat.lt_of_le_of_lt Nat.and_le_left h)
theorem toldT_bit (f : Nat → Nat) : ∀ i j, (toldT f i).testBit j = decide (j < i ∧ f j = 2 ^ j) := by
  intro i
  induction i with
  | zero => intro j; simp [toldT]
  | succ i ih =>
    intro j
    simp only [toldT]
    by_cases hc : f i = 2 ^ i
    · rw [if_pos hc, Nat.testBit_or, ih, Nat.testBit_two_pow]
      by_cases hij : i = j
      · subst hij; simp [hc]
      · have e : (j < i + 1) ↔ (j < i) := by omega
        simp [hij, e]
    · rw [if_neg hc, ih]
      by_cases hij : j = i
      · subst hij; simp [hc]
      · have e : (j < i + 1) ↔ (j < i) := by omega
        simp [e]
theorem toldT_lt {f : Nat → Nat} {k : Nat} (h : Gb f k) : toldT f 8 < 2 ^ k := by
  apply Nat.lt_pow_two_of_testBit
  intro j hj
  rw [toldT_bit]
  apply decide_eq_false
  rintro ⟨h1, h2⟩
  have := (h.1 j h1 (by rw [h2]; exact Nat.pos_iff_ne_zero.mp (Nat.two_pow_pos j))).2.2
  omega
def oneS (S : Snap) (m v d : Nat) : Nat := if m = 0 then lowb (andn (toldT (S.2.2.1 v) 8) (S.2.2.2 v)) else if m = 1 then toldT (S.2.2.1 v) 8 &&& 2 ^ (S.1 4 % S.1 1) else if m = 2 then (if rk (S.2.2.1 v) = 0 then 0 else mixT (S.2.2.1 v) 8 (chg d / 65536)) else 0
def oneD (S : Snap) (m v d : Nat) : Nat := if m = 2 then (if rk (S.2.2.1 v) = 0 then d else chg d) else d
/-- THE DRAW ahead of a node -/
def drwT (S : Snap) (m : Nat) : Nat → Nat
  | 0 => S.1 5
  | v + 1 => oneD S m v (drwT S m v)
def allT (f : Nat → Nat) : Nat → List Nat
  | 0 => []
  | i + 1 => if f i = 0 then allT f i else allT f i ++ [f i]
def sndL (S : Snap) (m v : Nat) : List Nat := if m = 3 then allT (S.2.2.1 v) 8 else if oneS S m v (drwT S m v) = 0 then [] else [oneS S m v (drwT S m v)]
theorem lowT_lt {x n : Nat} (hx : x < 2 ^ n) : ∀ d i, lowT x d i < 2 ^ n := by
  intro d
  induction d with
  | zero => intro i; exact Nat.two_pow_pos n
  | succ d ih =>
    intro i
    simp only [lowT]
    by_cases h : x.testBit i = true
    · rw [if_pos h]
      apply Nat.pow_lt_pow_right (by omega)
      apply Nat.lt_of_not_le
      intro q
      rw [Nat.testBit_lt_two_pow (Nat.lt_of_lt_of_le hx (Nat.pow_le_pow_right (by omega) q))] at h
      cases h
    · rw [if_neg h]
      exact ih (i + 1)
theorem mixT_lt {f : Nat → Nat} {k : Nat} (h : Gb f k) : ∀ i, i ≤ 8 → ∀ b, mixT f i b < 2 ^ k := by
  intro i
  induction i with
  | zero => intro _ b; exact Nat.two_pow_pos k
  | succ i ih =>
    intro hi b
    simp only [mixT]
    by_cases hf : f i = 0
    · rw [if_pos hf]; exact ih (by omega) b
    · rw [if_neg hf]
      refine Nat.xor_lt_two_pow ?_ (ih (by omega) _)
      split
      · obtain ⟨h1, -, h3⟩ := h.1 i (by omega) hf
        exact Nat.lt_of_lt_of_le h1 (Nat.pow_le_pow_right (by omega) (by omega))
      · exact Nat.two_pow_pos k
theorem chg_lt (d : Nat) : chg d < 2 ^ 31 := Nat.mod_lt _ (by decide)
theorem drwT_lt {S : Snap} (hG : Gs S) (m : Nat) : ∀ v, drwT S m v < 2 ^ 31 := by
  intro v
  induction v with
  | zero => exact hG.2.2.2.2.1
  | succ v ih =>
    simp only [drwT, oneD]
    split
    · split
      · exact ih
      · exact chg_lt _
    · exact ih
theorem oneS_lt {S : Snap} (hG : Gs S) {m v d : Nat} (hv : v < 6) : oneS S m v d < 2 ^ S.1 1 := by
  have h1 := hG.2.1
  have hB := (hG.2.2.2.2.2.2.2.1 v hv).1
  unfold oneS
  split
  · exact lowT_lt (andn_lt (toldT_lt hB)) 8 0
  · split
    · exact Nat.lt_of_le_of_lt Nat.and_le_left (toldT_lt hB)
    · split
      · split
        · exact Nat.two_pow_pos _
        · exact mixT_lt hB 8 (Nat.le_refl 8) _
      · exact Nat.two_pow_pos _
theorem allT_lt {f : Nat → Nat} {k : Nat} (h : Gb f k) : ∀ i, i ≤ 8 → (∀ x ∈ allT f i, x < 2 ^ k) ∧ (allT f i).length = rkT f i := by
  intro i
  induction i with
  | zero => intro _; exact ⟨fun x hx => absurd hx List.not_mem_nil, rfl⟩
  | succ i ih =>
    intro hi
    obtain ⟨h1, h2⟩ := ih (by omega)
    simp only [allT, rkT]
    by_cases hf : f i = 0
    · rw [if_pos hf, if_pos hf]
      exact ⟨h1, by omega⟩
    · rw [if_neg hf, if_neg hf]
      refine ⟨fun x hx => ?_, by simp [h2]⟩
      rcases List.mem_append.mp hx with hx | hx
      · exact h1 x hx
      · rw [List.mem_singleton.mp hx]
        obtain ⟨q1, -, q3⟩ := h.1 i (by omega) hf
        exact Nat.lt_of_lt_of_le q1 (Nat.pow_le_pow_right (by omega) (by omega))
theorem sndL_lt {S : Snap} (hG : Gs S) (m : Nat) {v : Nat} (hv : v < 6) : (∀ x ∈ sndL S m v, x < 2 ^ S.1 1) ∧ (sndL S m v).length ≤ 8 := by
  have hB := (hG.2.2.2.2.2.2.2.1 v hv).1
  unfold sndL
  split
  · obtain ⟨h1, h2⟩ := allT_lt hB 8 (Nat.le_refl 8)
    exact ⟨h1, by rw [h2]; exact (rkT_le _ hB 8 (Nat.le_refl 8)).1⟩
  · split
    · exact ⟨fun x hx => absurd hx List.not_mem_nil, by simp⟩
    · exact ⟨fun x hx => by rw [List.mem_singleton.mp hx]; exact oneS_lt hG hv, by simp⟩
theorem NetIs.fr {I I' : KI} {B : Nat} {S : Snap} (h : NetIs I B S) (hf : ∀ k, B ≤ k → k < B + 17 → I' k = I k) : NetIs I' B S := by
  obtain ⟨h1, h2, h3, h4, h5⟩ := h
  refine ⟨fun i hi => by rw [hf B (by omega) (by omega)]; exact h1 i hi, by rw [hf (B + 1) (by omega) (by omega)]; exact h2, fun i hi => by rw [hf (B + 2) (by omega) (by omega)]; exact h3 i hi, fun v hv t ht => by rw [hf (B + 6 + 2 * v) (by omega) (by omega)]; exact h4 v hv t ht, fun v hv => by rw [hf (B + 4) (by omega) (by omega)]; exact h5 v hv⟩
theorem sti_id (I : KI) (k j : Nat) : sti I k j (I k j) = I := by
  funext q
  by_cases h : q = k
  · subst h
    rw [sti_at]
    funext i
    by_cases hi : i = j
    · subst hi; rw [pk_us]
    · rw [pk_un hi]
  · rw [sti_ne _ _ _ h]
theorem sp_chosen {I : KI} {Q : KQ} {R B m v d : Nat} {S : Snap} {post : Int32 → KI → Prop} (hQ : NetQ Q B) (hN : NetIs I B S) (hG : Gs S) (hRB : R + 4 < B ∨ B + 16 < R) (hm : m < 3) (hv : v < 6) (hd : I R 3 = nI d) (hd2 : d < 2 ^ 31) (hr : S.1 4 < 2 ^ 31) (hp : post (nI (oneS S m v d)) (sti I R 3 (nI (oneD S m v d)))) : wp_X5_chosen I Q R B (nI m) (nI v) post := by
  have h1 := hG.2.1
  have hB := (hG.2.2.2.2.2.2.2.1 v hv).1
  have hA : ∀ t, t < 8 → I (rq Q (B + 5 + 2 * v) 0) t = nI (S.2.2.1 v t) := fun t ht => by rw [hQ.2.2.2.2.2 v hv]; exact hN.2.2.2.1 v hv t ht
  have hb : ∀ t, t < 8 → S.2.2.1 v t < 2 ^ 31 := fun t ht => hG.f31 hv ht
  have hkeep : sti I R 3 (nI d) = I := by rw [← hd]; exact sti_id I R 3
  have ht8 : toldT (S.2.2.1 v) 8 < 2 ^ 8 := Nat.lt_of_lt_of_le (toldT_lt hB) (Nat.pow_le_pow_right (by omega) h1.2)
  unfold wp_X5_chosen
  rw [hQ.2.2.1, nI_clamp (n := v) (by omega), hQ.2.2.2.2.1 v hv, hQ.2.2.2.1]
  refine ⟨vp_in_nI hv (by decide), ?_⟩
  rcases (show m = 0 ∨ m = 1 ∨ m = 2 by omega) with rfl | rfl | rfl
  · refine ⟨fun c => absurd rfl c, fun _ => ?_⟩
    refine sp_told rfl hA hb ⟨vp_in_nI hv (by decide), ?_⟩
    rw [hN.2.2.2.2 v hv, ni_andn]
    have hl : andn (toldT (S.2.2.1 v) 8) (S.2.2.2 v) < 256 := andn_lt ht8
    rw [show toldT (S.2.2.1 v) 8 ^^^ (toldT (S.2.2.1 v) 8 &&& S.2.2.2 v) = andn (toldT (S.2.2.1 v) 8) (S.2.2.2 v) from rfl, ni_low _ hl]
    have e : oneD S 0 v d = d := by simp [oneD]
    rw [e, hkeep] at hp
    simpa [oneS] using hp
  · refine ⟨fun _ => ⟨fun c => absurd rfl c, fun _ => ?_⟩, fun c => absurd c (by decide)⟩
    refine sp_told rfl hA hb ?_
    rw [show I B 7 = nI (S.1 4) from hN.1 4 (by omega), show I B 4 = nI (S.1 1) from hN.1 1 (by omega)]
    refine sp_leftOver hr (by omega) (by omega) ?_
    have hlt : S.1 4 % S.1 1 < S.1 1 := Nat.mod_lt _ (by omega)
    rw [ni_shl1 _ (by omega), ni_and]
    have e : oneD S 1 v d = d := by simp [oneD]
    rw [e, hkeep] at hp
    simpa [oneS] using hp
  · refine ⟨fun _ => ⟨fun _ => ⟨fun c => absurd rfl c, fun _ => ?_⟩, fun c => absurd c (by decide)⟩, fun c => absurd c (by decide)⟩
    have hrk := rk_le8 hB
    refine sp_rank hA hb ?_
    rw [hd]
    refine ⟨fun c => ?_, fun c => ?_⟩
    · have h0 : ¬ rk (S.2.2.1 v) = 0 := fun q => c (by rw [q]; rfl)
      refine sp_changed (sp_drawn (d := chg d) (post := _) (chg_lt d) ?_ |> fun z => by rw [sti_at, pk_us]; exact z)
      have hA2 : ∀ t, t < 8 → sti I R 3 (nI (chg d)) (rq Q (B + 5 + 2 * v) 0) t = nI (S.2.2.1 v t) := fun t ht => by rw [sti_ne _ _ _ (by rw [hQ.2.2.2.2.2 v hv]; omega)]; exact hA t ht
      refine sp_mixed rfl hA2 hb (by have := chg_lt d; omega) ?_
      simpa [oneS, oneD, h0] using hp
    · have h0 := (nI_z (by omega)).mp c
      have e : oneD S 2 v d = d := by simp [oneD, h0]
      rw [e, hkeep] at hp
      have hp2 : post (nI 0) I := by simpa [oneS, h0] using hp
      exact hp2
/-- what stands in the round's rows for a node -/
def SL (I : KI) (R v : Nat) (xs : List Nat) : Prop := I (R + 2) v = nI xs.length ∧ ∀ j, j < xs.length → I (R + 1) (8 * v + j) = nI (xs.getD j 0)
theorem sp_send {I : KI} {Q : KQ} {R v x : Nat} {xs : List Nat} {post : KI → Prop} (hR : RndQ Q R) (hv : v < 6) (hx : x < 2 ^ 31) (hS : SL I R v xs) (hl : x ≠ 0 → xs.length ≤ 7) (hp : ∀ I', (∀ k, k ≠ R + 1 → k ≠ R + 2 → I' k = I k) → (∀ u, u ≠ v → I' (R + 2) u = I (R + 2) u) → (∀ j, (j < 8 * v ∨ 8 * v + 8 ≤ j) → I' (R + 1) j = I (R + 1) j) → SL I' R v (if x = 0 then xs else xs ++ [x]) → post I') : wp_X5_send I Q R (nI v) (nI x) post := by
  unfold wp_X5_send
  rw [hR.1, hR.2.1, nI_clamp (n := v) (by omega), hS.1]
  refine ⟨fun c => ?_, fun c => ?_⟩
  · have h0 := (nI_z hx).mp c
    have := hp I (fun _ _ _ => rfl) (fun _ _ => rfl) (fun _ _ => rfl)
    rw [if_pos h0] at this
    exact this hS
  · have h0 : x ≠ 0 := fun q => c (by rw [q]; rfl)
    have hl := hl h0
    refine ⟨vp_in_nI hv (by decide), br_f (nI_ge (b := 8) (by omega) (by decide)) ⟨vp_in_nI hv (by decide), ?_⟩⟩
    rw [rd_at]
    refine ⟨vp_in_nI (by omega) (by decide), vp_in_nI hv (by decide), vp_in_nI hv (by decide), ?_⟩
    rw [nI_clamp (n := 8 * v + xs.length) (by omega)]
    have e1 : sti I (R + 1) (8 * v + xs.length) (nI x) (R + 2) v = nI xs.length := by rw [sti_ne _ _ _ (by omega)]; exact hS.1
    rw [e1, nI_1]
    refine hp _ (fun k h1 h2 => ?_) (fun u hu => ?_) (fun j hj => ?_) ?_
    · rw [sti_ne _ _ _ h2, sti_ne _ _ _ h1]
    · rw [sti_at, pk_un hu, sti_ne _ _ _ (by omega)]
    · rw [sti_ne _ _ _ (by omega), sti_at, pk_un (by omega)]
    · rw [if_neg h0]
      refine ⟨by rw [sti_at, pk_us]; simp, fun j hj => ?_⟩
      rw [sti_ne _ _ _ (by omega), sti_at]
      by_cases hj2 : j = xs.length
      · subst hj2
        rw [pk_us]
        simp
      · have hj3 : j < xs.length := by simp at hj; omega
        rw [pk_un (by omega), hS.2 j hj3, List.getD_eq_getElem?_getD, List.getD_eq_getElem?_getD, List.getElem?_append_left hj3]
theorem lp_sendAll {Q : KQ} {R h a v : Nat} {f : Nat → Nat} {post : KI → Prop} (I0 : KI) (hR : RndQ Q R) (ha : rq Q h 0 = a) (h1 : a ≠ R + 1) (h2 : a ≠ R + 2) (hv : v < 6) (hb : ∀ t, t < 8 → f t < 2 ^ 31) (hA : ∀ t, t < 8 → I0 a t = nI (f t)) (hlen : ∀ i, i ≤ 8 → (allT f i).length ≤ i) (hp : ∀ I', (∀ k, k ≠ R + 1 → k ≠ R + 2 → I' k = I0 k) → (∀ u, u ≠ v → I' (R + 2) u = I0 (R + 2) u) → (∀ j, (j < 8 * v ∨ 8 * v + 8 ≤ j) → I' (R + 1) j = I0 (R + 1) j) → SL I' R v (allT f 8) → post I') : ∀ d i I, i + d = 8 → (∀ k, k ≠ R + 1 → k ≠ R + 2 → I k = I0 k) → (∀ u, u ≠ v → I (R + 2) u = I0 (R + 2) u) → (∀ j, (j < 8 * v ∨ 8 * v + 8 ≤ j) → I (R + 1) j = I0 (R + 1) j) → SL I R v (allT f i) → wp_X5_sendAll_L2 Q R h (nI v) post (d + 1) I (nI i) := by
  intro d
  induction d with
  | zero =>
    intro i I hi q1 q2 q3 q4
    have : i = 8 := by omega
    subst this
    unfold wp_X5_sendAll_L2
    exact br_t (nI_le (a := 8) (Nat.le_refl 8) (by decide)) (hp I q1 q2 q3 q4)
  | succ d ih =>
    intro i I hi q1 q2 q3 q4
    unfold wp_X5_sendAll_L2
    refine br_f (nI_ge (b := 8) (by omega) (by decide)) ⟨vp_in_nI (by omega) (by decide), ?_⟩
    rw [ha, nI_clamp (by omega), q1 a h1 h2, hA i (by omega)]
    have hl := hlen i (by omega)
    refine sp_send hR hv (hb i (by omega)) q4 (fun _ => by omega) (fun I' w1 w2 w3 w4 => ?_)
    rw [nI_1 i]
    refine ih (i + 1) I' (by omega) (fun k z1 z2 => by rw [w1 k z1 z2]; exact q1 k z1 z2) (fun u hu => by rw [w2 u hu]; exact q2 u hu) (fun j hj => by rw [w3 j hj]; exact q3 j hj) ?_
    simp only [allT]
    exact w4
theorem lp_prepare {Q : KQ} {R B m : Nat} {S : Snap} {post : KI → Prop} (I0 : KI) (hR : RndQ Q R) (hQ : NetQ Q B) (hN : NetIs I0 B S) (hG : Gs S) (hRB : R + 4 < B ∨ B + 16 < R) (hm : m ≤ 3) (hr : S.1 4 < 2 ^ 31) (hp : ∀ I', (∀ k, k ≠ R → k ≠ R + 1 → k ≠ R + 2 → I' k = I0 k) → I' R 3 = nI (drwT S m (S.1 0)) → SentIs I' R (sndL S m) (S.1 0) → post I') : ∀ d v I, v + d = S.1 0 → (∀ k, k ≠ R → k ≠ R + 1 → k ≠ R + 2 → I k = I0 k) → I R 3 = nI (drwT S m v) → (∀ u, u < v → SL I R u (sndL S m u)) → wp_X5_prepare_L10 Q R B (nI m) post (d + 1) I (nI v) := by
  have hn := hG.1
  intro d
  induction d with
  | zero =>
    intro v I hv q1 q2 q3
    have : v = S.1 0 := by omega
    subst this
    unfold wp_X5_prepare_L10
    rw [q1 B (by omega) (by omega) (by omega), show I0 B 3 = nI (S.1 0) from hN.1 0 (by omega)]
    exact br_t (nI_le (Nat.le_refl _) (by omega)) (hp I q1 q2 (fun u hu => ⟨(q3 u hu).1, (sndL_lt hG m (by omega)).2, (q3 u hu).2⟩))
  | succ d ih =>
    intro v I hv q1 q2 q3
    have hv6 : v < 6 := by omega
    unfold wp_X5_prepare_L10
    rw [q1 B (by omega) (by omega) (by omega), show I0 B 3 = nI (S.1 0) from hN.1 0 (by omega)]
    refine br_f (nI_ge (by omega) (by omega)) ⟨vp_in_nI hv6 (by decide), ?_⟩
    rw [hR.2.1, nI_clamp (by omega)]
    have hN1 : NetIs (sti I (R + 2) v 0) B S := hN.fr (fun k h1 h2 => by rw [sti_ne _ _ _ (by omega)]; exact q1 k (by omega) (by omega) (by omega))
    have hSL0 : SL (sti I (R + 2) v 0) R v [] := ⟨by rw [sti_at, pk_us]; rfl, fun j hj => absurd hj (Nat.not_lt_zero j)⟩
    have keep : ∀ I', (∀ k, k ≠ R → k ≠ R + 1 → k ≠ R + 2 → I' k = I k) → (∀ u, u ≠ v → I' (R + 2) u = I (R + 2) u) → (∀ j, (j < 8 * v ∨ 8 * v + 8 ≤ j) → I' (R + 1) j = I (R + 1) j) → I' R 3 = nI (drwT S m (v + 1)) → SL I' R v (sndL S m v) → wp_X5_prepare_L10 Q R B (nI m) post (d + 1) I' (nI v + 1) := by
      intro I' w1 w2 w3 w4 w5
      rw [nI_1]
      refine ih (v + 1) I' (by omega) (fun k z1 z2 z3 => by rw [w1 k z1 z2 z3]; exact q1 k z1 z2 z3) w4 (fun u hu => ?_)
      by_cases huv : u = v
      · subst huv; exact w5
      · obtain ⟨s1, s2⟩ := q3 u (by omega)
        have hlen := (sndL_lt hG m (show u < 6 by omega)).2
        exact ⟨by rw [w2 u huv]; exact s1, fun j hj => by rw [w3 _ (by omega)]; exact s2 j hj⟩
    refine ⟨fun c => ?_, fun c => ⟨vp_in_nI hv6 (by decide), ?_⟩⟩
    · have hm3 : m ≠ 3 := fun q => c (by rw [q]; rfl)
      refine sp_chosen (d := drwT S m v) hQ hN1 hG hRB (by omega) hv6 (by rw [sti_ne _ _ _ (by omega)]; exact q2) (drwT_lt hG m v) hr ?_
      have hSL1 : SL (sti (sti I (R + 2) v 0) R 3 (nI (oneD S m v (drwT S m v)))) R v [] := ⟨by rw [sti_ne _ _ _ (by omega)]; exact hSL0.1, fun j hj => absurd hj (Nat.not_lt_zero j)⟩
      refine sp_send hR hv6 (Nat.lt_of_lt_of_le (oneS_lt hG hv6) (Nat.pow_le_pow_right (by omega) (by have := hG.2.1; omega))) hSL1 (fun _ => by simp) (fun I' w1 w2 w3 w4 => ?_)
      refine keep I' (fun k z1 z2 z3 => ?_) (fun u hu => ?_) (fun j hj => ?_) ?_ ?_
      · rw [w1 k z2 z3, sti_ne _ _ _ z1, sti_ne _ _ _ z3]
      · rw [w2 u hu, sti_ne _ _ _ (by omega), sti_at, pk_un hu]
      · rw [w3 j hj, sti_ne _ _ _ (by omega), sti_ne _ _ _ (by omega)]
      · rw [w1 R (by omega) (by omega), sti_at, pk_us]
        rfl
      · unfold sndL
        rw [if_neg hm3]
        by_cases h0 : oneS S m v (drwT S m v) = 0
        · rw [if_pos h0] at w4 ⊢
          exact w4
        · rw [if_neg h0] at w4 ⊢
          exact w4
    · have hm3 : m = 3 := (nI_eq (b := 3) (by omega) (by decide)).mp c
      have hB := (hG.2.2.2.2.2.2.2.1 v hv6).1
      rw [hQ.2.2.1, hQ.2.2.2.2.1 v hv6]
      refine ⟨9, ?_⟩
      refine lp_sendAll (f := S.2.2.1 v) (sti I (R + 2) v 0) hR (hQ.2.2.2.2.2 v hv6) (by omega) (by omega) hv6 (fun t ht => hG.f31 hv6 ht) (fun t ht => hN1.2.2.2.1 v hv6 t ht) (fun i hi => by rw [(allT_lt hB i hi).2]; exact (rkT_le _ hB i hi).1) (fun I' w1 w2 w3 w4 => ?_) 8 0 _ rfl (fun _ _ _ => rfl) (fun _ _ => rfl) (fun _ _ => rfl) hSL0
      refine keep I' (fun k z1 z2 z3 => ?_) (fun u hu => ?_) (fun j hj => ?_) ?_ ?_
      · rw [w1 k z2 z3, sti_ne _ _ _ z3]
      · rw [w2 u hu, sti_at, pk_un hu]
      · rw [w3 j hj, sti_ne _ _ _ (by omega)]
      · rw [w1 R (by omega) (by omega), sti_ne _ _ _ (by omega), q2]
        simp [drwT, oneD, hm3]
      · unfold sndL
        rw [if_pos hm3]
        exact w4
theorem sp_prepare {I : KI} {Q : KQ} {R B m : Nat} {S : Snap} {post : KI → Prop} (hR : RndQ Q R) (hQ : NetQ Q B) (hN : NetIs I B S) (hG : Gs S) (hRB : R + 4 < B ∨ B + 16 < R) (hm : m ≤ 3) (hr : S.1 4 < 2 ^ 31) (hp : ∀ I', (∀ k, k ≠ R → k ≠ R + 1 → k ≠ R + 2 → I' k = I k) → I' R 3 = nI (drwT S m (S.1 0)) → SentIs I' R (sndL S m) (S.1 0) → post I') : wp_X5_prepare I Q R B (nI m) post := by
  unfold wp_X5_prepare
  rw [show I B 8 = nI (S.1 5) from hN.1 5 (by omega)]
  exact ⟨S.1 0 + 1, lp_prepare I hR hQ hN hG hRB hm hr hp (S.1 0) 0 _ (by omega) (fun k h1 _ _ => by rw [sti_ne _ _ _ h1]) (by rw [sti_at, pk_us]; rfl) (fun u hu => absurd hu (Nat.not_lt_zero u))⟩
theorem sp_only {I : KI} {Q : KQ} {R n v : Nat} {L : Nat → List Nat} {post : Int32 → Prop} (hR : RndQ Q R) (hn : n ≤ 6) (hS : SentIs I R L n) (hv : v < n) (hp : post (nI ((L v).getD 0 0))) : wp_X5_only I Q R (nI v) post := by
  obtain ⟨s1, s2, s3⟩ := hS v hv
  unfold wp_X5_only
  rw [hR.1, hR.2.1, nI_clamp (n := v) (by omega), s1]
  refine ⟨vp_in_nI (by omega) (by decide), fun c => ?_, fun c => ?_⟩
  · have h0 : 0 < (L v).length := Nat.pos_of_ne_zero (fun q => c (by rw [q]; rfl))
    rw [show nI v * (8 : Int32) = nI (v * 8) from pk_mul v 8]
    refine ⟨vp_in_nI (by omega) (by decide), ?_⟩
    rw [nI_clamp (by omega), show v * 8 = 8 * v + 0 by omega, s3 0 h0]
    exact hp
  · have h0 := (nI_z (by omega)).mp c
    have : L v = [] := List.length_eq_zero_iff.mp h0
    rw [this] at hp
    exact hp
theorem sp_growth {I : KI} {Q : KQ} {R B v s : Nat} {L : Nat → List Nat} {S : Snap} {post : Int32 → KI → Prop} (hR : RndQ Q R) (hQ : NetQ Q B) (hN : NetIs I B S) (hG : Gs S) (hRB : R + 4 < B ∨ B + 16 < R) (hS : SentIs I R L (S.1 0)) (hlt : ∀ u, u < S.1 0 → ∀ x ∈ L u, x < 2 ^ S.1 1) (hv : v < 6) (hs : s < 2 ^ 32) (hp : ∀ g, post (nI (rk ((hearL L s (S.1 0)).foldl adS (S.2.2.1 v)) - rk (S.2.2.1 v))) (upk I (R + 4) g)) : wp_X5_growth I Q R B (nI v) (nI s) post := by
  have hB := (hG.2.2.2.2.2.2.2.1 v hv).1
  have h1 := hG.1
  have h2 := hG.2.1
  unfold wp_X5_growth
  rw [hQ.2.2.1, nI_clamp (n := v) (by omega), hQ.2.2.2.2.1 v hv, hR.2.2.1]
  refine ⟨vp_in_nI hv (by decide), sp_stake hR.2.2.2 (hQ.2.2.2.2.2 v hv) (fun g hg => ?_)⟩
  refine sp_deliver (L := L) (f := S.2.2.1 v) (k := S.1 1) (n := S.1 0) hR hR.2.2.2 (by omega) (by omega) (by omega) h2.2 h1.2 hs (by rw [upk_n (by omega)]; exact hN.1 0 (by omega)) (by rw [upk_n (by omega)]; exact hN.1 1 (by omega)) (fun u hu => ?_) hlt hB (fun t ht => by rw [upk_s, hg t ht]; exact hN.2.2.2.1 v hv t ht) (fun g2 _ _ => by rw [upk2]; exact hp g2)
  obtain ⟨s1, s2, s3⟩ := hS u hu
  exact ⟨by rw [upk_n (by omega)]; exact s1, s2, fun j hj => by rw [upk_n (by omega)]; exact s3 j hj⟩
