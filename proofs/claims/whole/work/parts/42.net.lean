/-! PURE, 4: plans and nets. A set of links is a number: bit pi u v for a link of u and v. -/
def pi2 (u v : Nat) : Nat := if u < v then v * (v - 1) / 2 + u else u * (u - 1) / 2 + v
/-- the nodes below i that a link set p joins to v -/
def nbT (p v : Nat) : Nat → Nat
  | 0 => 0
  | u + 1 => nbT p v u ||| (if u ≠ v ∧ p.testBit (pi2 u v) = true then 2 ^ u else 0)
theorem nbT_bit (p v : Nat) : ∀ i j, (nbT p v i).testBit j = decide (j < i ∧ j ≠ v ∧ p.testBit (pi2 j v) = true) := by
  intro i
  induction i with
  | zero => intro j; simp [nbT]
  | succ i ih =>
    intro j
    simp only [nbT, Nat.testBit_or, ih]
    by_cases hc : i ≠ v ∧ p.testBit (pi2 i v) = true
    · rw [if_pos hc, Nat.testBit_two_pow]
      by_cases hij : i = j
      · subst hij
        simp [hc.1, hc.2]
      · have e : (j < i + 1) ↔ (j < i) := by omega
        simp [hij, e]
    · rw [if_neg hc, Nat.zero_testBit, Bool.or_false]
      by_cases hij : j = i
      · subst hij
        have : ¬ (j < j + 1 ∧ j ≠ v ∧ p.testBit (pi2 j v) = true) := fun q => hc q.2
        rw [decide_eq_false this]
        simp
      · have e : (j < i + 1) ↔ (j < i) := by omega
        simp [e]
theorem nbT_lt (p v i : Nat) : nbT p v i < 2 ^ i := by
  apply Nat.lt_pow_two_of_testBit
  intro j hj
  rw [nbT_bit]
  apply decide_eq_false
  rintro ⟨h, -⟩
  omega
theorem pi2_injA : ∀ c, c < 36 → ∀ d, d < 36 → (c / 6 ≠ c % 6 ∧ d / 6 ≠ d % 6 → (pi2 (d / 6) (d % 6) = pi2 (c / 6) (c % 6) ↔ (d / 6 = c / 6 ∧ d % 6 = c % 6) ∨ (d / 6 = c % 6 ∧ d % 6 = c / 6))) := by decide +kernel
theorem pi2_inj (a : Nat) (ha : a < 6) (b : Nat) (hb : b < 6) (j : Nat) (hj : j < 6) (v : Nat) (hv : v < 6) (hab : a ≠ b) (hjv : j ≠ v) : (pi2 j v = pi2 a b ↔ (j = a ∧ v = b) ∨ (j = b ∧ v = a)) := by
  have h := pi2_injA (6 * a + b) (by omega) (6 * j + v) (by omega)
  rw [show (6 * a + b) / 6 = a by omega, show (6 * a + b) % 6 = b by omega, show (6 * j + v) / 6 = j by omega, show (6 * j + v) % 6 = v by omega] at h
  exact h ⟨hab, hjv⟩
theorem pi2_lt : ∀ n, n ≤ 6 → ∀ a, a < n → ∀ b, b < n → a ≠ b → pi2 a b < n * (n - 1) / 2 := by decide +kernel
theorem pi2_geA : ∀ n, n ≤ 6 → ∀ c, c < 36 → (n ≤ c / 6 ∧ c % 6 ≠ c / 6 → n * (n - 1) / 2 ≤ pi2 (c % 6) (c / 6)) := by decide +kernel
theorem pi2_ge (n : Nat) (hn : n ≤ 6) (v : Nat) (hv : v < 6) (h : n ≤ v) (u : Nat) (hu : u < 6) (huv : u ≠ v) : n * (n - 1) / 2 ≤ pi2 u v := by
  have h := pi2_geA n hn (6 * v + u) (by omega)
  rw [show (6 * v + u) / 6 = v by omega, show (6 * v + u) % 6 = u by omega] at h
  exact h ⟨by assumption, huv⟩
theorem pi2_c (a b : Nat) : pi2 a b = pi2 b a := by
  unfold pi2
  by_cases h : a < b
  · rw [if_pos h, if_neg (by omega)]
  · by_cases h2 : b < a
    · rw [if_neg h, if_pos h2]
    · have : a = b := by omega
      subst this; rfl
theorem nbT_link {p a b n v : Nat} (hn : n ≤ 6) (ha : a < n) (hb : b < n) (hab : a ≠ b) (hv : v < 6) : nbT (p ||| 2 ^ pi2 a b) v n = nbT p v n ||| (if v = a then 2 ^ b else if v = b then 2 ^ a else 0) := by
  apply Nat.eq_of_testBit_eq
  intro j
  rw [Nat.testBit_or, nbT_bit, nbT_bit]
  by_cases hj : j < n
  · by_cases hjv : j = v
    · subst hjv
      have : (if j = a then 2 ^ b else if j = b then 2 ^ a else 0 : Nat).testBit j = false := by
        by_cases q : j = a
        · rw [if_pos q, Nat.testBit_two_pow]; exact decide_eq_false (by omega)
        · rw [if_neg q]
          by_cases q2 : j = b
          · rw [if_pos q2, Nat.testBit_two_pow]; exact decide_eq_false (by omega)
          · rw [if_neg q2, Nat.zero_testBit]
      rw [this]
      simp
    · have hi := pi2_inj a (by omega) b (by omega) j (by omega) v hv hab hjv
      have e1 : (p ||| 2 ^ pi2 a b).testBit (pi2 j v) = (p.testBit (pi2 j v) || decide (pi2 a b = pi2 j v)) := by rw [Nat.testBit_or, Nat.testBit_two_pow]
      have e2 : (if v = a then 2 ^ b else if v = b then 2 ^ a else 0 : Nat).testBit j = decide (pi2 a b = pi2 j v) := by
        by_cases q : v = a
        · rw [if_pos q, Nat.testBit_two_pow]
          exact decide_eq_decide.mpr ⟨fun z => by rw [eq_comm, hi]; exact Or.inr ⟨z.symm, q⟩, fun z => by rw [eq_comm, hi] at z; omega⟩
        · rw [if_neg q]
          by_cases q2 : v = b
          · rw [if_pos q2, Nat.testBit_two_pow]
            exact decide_eq_decide.mpr ⟨fun z => by rw [eq_comm, hi]; exact Or.inl ⟨z.symm, q2⟩, fun z => by rw [eq_comm, hi] at z; omega⟩
          · rw [if_neg q2, Nat.zero_testBit, eq_comm]
            exact decide_eq_false (fun z => by rw [eq_comm, hi] at z; omega)
      rw [e1, e2]
      simp only [hj, true_and, ne_eq, hjv, not_false_eq_true]
      cases p.testBit (pi2 j v) <;> cases decide (pi2 a b = pi2 j v) <;> rfl
  · have : (if v = a then 2 ^ b else if v = b then 2 ^ a else 0 : Nat).testBit j = false := by
      by_cases q : v = a
      · rw [if_pos q, Nat.testBit_two_pow]; exact decide_eq_false (by omega)
      · rw [if_neg q]
        by_cases q2 : v = b
        · rw [if_pos q2, Nat.testBit_two_pow]; exact decide_eq_false (by omega)
        · rw [if_neg q2, Nat.zero_testBit]
    rw [this]
    simp [hj]
/-- a row of the plan's links, as masks -/
def RowL (g : Nat → Int32) (i p n : Nat) : Prop := ∀ v, v < 6 → g (6 * i + v) = nI (nbT p v n)
theorem pl_at (i v : Nat) : (nI i * (6 : Int32)) + nI v = nI (6 * i + v) := by
  rw [show nI i * (6 : Int32) = nI (i * 6) from pk_mul i 6, nI_add, Nat.mul_comm]
theorem sp_of {I : KI} {Q : KQ} {P i v : Nat} {post : Int32 → Prop} (hi : i < 8) (hv : v < 6) (hp : post (I (rq Q P 0) (6 * i + v))) : wp_X4_of I Q P (nI i) (nI v) post := by
  unfold wp_X4_of
  rw [pl_at]
  refine br_f (nI_pos (by omega)) (br_f (nI_ge (b := 48) (by omega) (by decide)) ⟨vp_in_nI (by omega) (by decide), ?_⟩)
  rw [nI_clamp (by omega)]
  exact hp
theorem sp_set {I : KI} {Q : KQ} {P i v : Nat} {x : Int32} {post : KI → Prop} (hi : i < 8) (hv : v < 6) (hp : post (sti I (rq Q P 0) (6 * i + v) x)) : wp_X4_set I Q P (nI i) (nI v) x post := by
  unfold wp_X4_set
  rw [pl_at]
  refine br_f (nI_pos (by omega)) (br_f (nI_ge (b := 48) (by omega) (by decide)) ⟨vp_in_nI (by omega) (by decide), ?_⟩)
  rw [nI_clamp (by omega)]
  exact hp
theorem sp_link {I : KI} {Q : KQ} {P i a b p n : Nat} {post : KI → Prop} (hi : i < 8) (hn : n ≤ 6) (ha : a < n) (hb : b < n) (hab : a ≠ b) (hR : RowL (I (rq Q P 0)) i p n) (hp : ∀ g, RowL g i (p ||| 2 ^ pi2 a b) n → (∀ j, (j < 6 * i ∨ 6 * i + 6 ≤ j) → g j = I (rq Q P 0) j) → post (upk I (rq Q P 0) g)) : wp_X4_link I Q P (nI i) (nI a) (nI b) post := by
  unfold wp_X4_link
  refine sp_of hi (by omega) (sp_set hi (by omega) (sp_of hi (by omega) (sp_set hi (by omega) ?_)))
  rw [hR a (by omega), sti_at]
  have e : upd (I (rq Q P 0)) (6 * i + a) (nI (nbT p a n) ||| 1 <<< (nI b &&& 31)) (6 * i + b) = nI (nbT p b n) := by
    rw [pk_un (by omega), hR b (by omega)]
  rw [e, ni_shl1 a (by omega), ni_shl1 b (by omega), ni_or, ni_or, sti_eq I, sti_upk]
  refine hp _ (fun v hv => ?_) (fun j hj => ?_)
  · rw [nbT_link hn ha hb hab hv]
    by_cases hvb : v = b
    · subst hvb
      rw [pk_us, if_neg (fun q => hab q.symm), if_pos rfl]
    · rw [pk_un (by omega)]
      by_cases hva : v = a
      · subst hva
        rw [pk_us, if_pos rfl]
      · rw [pk_un (by omega), if_neg hva, if_neg hvb, Nat.or_zero]
        exact hR v hv
  · rw [pk_un (by omega), pk_un (by omega)]
/-- the path's links, up to a node -/
def ptT : Nat → Nat
  | 0 => 0
  | v + 1 => if v = 0 then 0 else ptT v ||| 2 ^ pi2 (v - 1) v
theorem lp_path {I : KI} {Q : KQ} {P i n : Nat} {post : KI → Prop} (hi : i < 8) (hn : n ≤ 6) (hp : ∀ g, RowL g i (ptT n) n → (∀ j, (j < 6 * i ∨ 6 * i + 6 ≤ j) → g j = I (rq Q P 0) j) → post (upk I (rq Q P 0) g)) : ∀ d v g, v + d = n → 1 ≤ v → RowL g i (ptT v) n → (∀ j, (j < 6 * i ∨ 6 * i + 6 ≤ j) → g j = I (rq Q P 0) j) → wp_X4_path_L2 Q P (nI i) (nI n) post (d + 1) (upk I (rq Q P 0) g) (nI v) := by
  intro d
  induction d with
  | zero =>
    intro v g hv _ hg hg2
    have : v = n := by omega
    subst this
    unfold wp_X4_path_L2
    exact br_t (nI_le (Nat.le_refl _) (by omega)) (hp g hg hg2)
  | succ d ih =>
    intro v g hv h1 hg hg2
    unfold wp_X4_path_L2
    refine br_f (nI_ge (by omega) (by omega)) ?_
    rw [show nI v - (1 : Int32) = nI (v - 1) from pk_sub (a := v) (b := 1) h1, nI_1]
    refine sp_link (p := ptT v) hi hn (by omega) (by omega) (by omega) (by rw [upk_s]; exact hg) (fun g2 h2 h3 => ?_)
    rw [upk2]
    refine ih (v + 1) g2 (by omega) (by omega) ?_ (fun j hj => ?_)
    · have e : ptT (v + 1) = ptT v ||| 2 ^ pi2 (v - 1) v := by
        simp only [ptT]
        rw [if_neg (by omega)]
      rw [e]
      exact h2
    · rw [h3 j hj, upk_s]
      exact hg2 j hj
theorem sp_path {I : KI} {Q : KQ} {P i n : Nat} {post : KI → Prop} (hi : i < 8) (hn : n ≤ 6) (h1 : 1 ≤ n) (hR : RowL (I (rq Q P 0)) i 0 n) (hp : ∀ g, RowL g i (ptT n) n → (∀ j, (j < 6 * i ∨ 6 * i + 6 ≤ j) → g j = I (rq Q P 0) j) → post (upk I (rq Q P 0) g)) : wp_X4_path I Q P (nI i) (nI n) post := by
  obtain ⟨d, hd⟩ : ∃ d, 1 + d = n := ⟨n - 1, by omega⟩
  have := lp_path hi hn hp d 1 (I (rq Q P 0)) hd (Nat.le_refl 1) hR (fun _ _ => rfl)
  rw [upk_id] at this
  exact ⟨d + 1, this⟩
theorem nbT_0 (v n : Nat) : nbT 0 v n = 0 := by
  apply Nat.eq_of_testBit_eq
  intro j
  rw [nbT_bit]
  simp
theorem lp_begin {I : KI} {Q : KQ} {P i : Nat} {post : KI → Prop} (hi : i < 8) (hne : rq Q P 0 ≠ P) (hp : ∀ g, (∀ v, v < 6 → g (6 * i + v) = 0) → (∀ j, (j < 6 * i ∨ 6 * i + 6 ≤ j) → g j = I (rq Q P 0) j) → post (sti (upk I (rq Q P 0) g) P 1 (nI (i + 1)))) : ∀ d v g, v + d = 6 → (∀ u, u < v → g (6 * i + u) = 0) → (∀ j, (j < 6 * i ∨ 6 * i + 6 ≤ j) → g j = I (rq Q P 0) j) → wp_X4_begin_L2 Q P (nI i) post (d + 1) (upk I (rq Q P 0) g) (nI v) := by
  intro d
  induction d with
  | zero =>
    intro v g hv hg hg2
    have : v = 6 := by omega
    subst this
    unfold wp_X4_begin_L2
    rw [nI_1]
    exact br_t (nI_le (a := 6) (Nat.le_refl _) (by decide)) (hp g hg hg2)
  | succ d ih =>
    intro v g hv hg hg2
    unfold wp_X4_begin_L2
    refine br_f (nI_ge (b := 6) (by omega) (by decide)) (sp_set hi (by omega) ?_)
    rw [sti_upk, nI_1 v]
    refine ih (v + 1) _ (by omega) (fun u hu => ?_) (fun j hj => ?_)
    · by_cases huv : u = v
      · subst huv; rw [pk_us]
      · rw [pk_un (by omega)]
        exact hg u (by omega)
    · rw [pk_un (by omega)]
      exact hg2 j hj
theorem sp_begin {I : KI} {Q : KQ} {P i : Nat} {post : KI → Prop} (hi : i < 8) (hne : rq Q P 0 ≠ P) (hp : ∀ g, (∀ n, RowL g i 0 n) → (∀ j, (j < 6 * i ∨ 6 * i + 6 ≤ j) → g j = I (rq Q P 0) j) → post (sti (upk I (rq Q P 0) g) P 1 (nI (i + 1)))) : wp_X4_begin I Q P (nI i) post := by
  have := lp_begin (post := post) hi hne (fun g h1 h2 => hp g (fun n v hv => by rw [h1 v hv, nbT_0]; rfl) h2) 6 0 (I (rq Q P 0)) rfl (fun u hu => absurd hu (Nat.not_lt_zero u)) (fun _ _ => rfl)
  rw [upk_id] at this
  exact ⟨7, this⟩
/-! a net: scalars (0 n, 1 k, 2 manner, 3 span, 4 round, 5 draw, 6 how many sets of links), the sets of links, each node's basis, what it has sent by LEAST -/
abbrev Snap : Type := (Nat → Nat) × (Nat → Nat) × (Nat → Nat → Nat) × (Nat → Nat)
def NetQ (Q : KQ) (B : Nat) : Prop := rq Q B 0 = B + 1 ∧ rq Q (B + 1) 0 = B + 2 ∧ rq Q B 1 = B + 3 ∧ rq Q B 2 = B + 4 ∧ (∀ v, v < 6 → rq Q (B + 3) v = B + 5 + 2 * v) ∧ ∀ v, v < 6 → rq Q (B + 5 + 2 * v) 0 = B + 6 + 2 * v
def NetIs (I : KI) (B : Nat) (S : Snap) : Prop := (∀ i, i < 6 → I B (3 + i) = nI (S.1 i)) ∧ I (B + 1) 1 = nI (S.1 6) ∧ (∀ i, i < S.1 6 → RowL (I (B + 2)) i (S.2.1 i) (S.1 0)) ∧ (∀ v, v < 6 → ∀ t, t < 8 → I (B + 6 + 2 * v) t = nI (S.2.2.1 v t)) ∧ ∀ v, v < 6 → I (B + 4) v = nI (S.2.2.2 v)
/-- how many numbers below 2^i of a kind there are -/
def cntT (P : Nat → Bool) : Nat → Nat → Nat
  | 0, o => if P o then 1 else 0
  | i + 1, o => cntT P i o + cntT P i (o + 2 ^ i)
def cntS (f : Nat → Nat) : Nat := cntT (fun x => decide (red f x = 0)) 8 0
/-- what always holds of a net -/
def Gs (S : Snap) : Prop := (2 ≤ S.1 0 ∧ S.1 0 ≤ 6) ∧ (1 ≤ S.1 1 ∧ S.1 1 ≤ 8) ∧ S.1 2 ≤ 3 ∧ (1 ≤ S.1 3 ∧ S.1 3 ≤ 9) ∧ S.1 5 < 2 ^ 31 ∧ (1 ≤ S.1 6 ∧ S.1 6 ≤ 8) ∧ (∀ i, i < S.1 6 → S.2.1 i < 2 ^ (S.1 0 * (S.1 0 - 1) / 2)) ∧ (∀ v, v < 6 → Gb (S.2.2.1 v) (S.1 1) ∧ cntS (S.2.2.1 v) = 2 ^ rk (S.2.2.1 v)) ∧ ∀ v, v < 6 → S.2.2.2 v < 2 ^ S.1 1
theorem Gs.f31 {S : Snap} (h : Gs S) {v t : Nat} (hv : v < 6) (ht : t < 8) : S.2.2.1 v t < 2 ^ 31 := by
  have := Gb_lt (h.2.2.2.2.2.2.2.1 v hv).1 ht
  omega
theorem sp_hasNode {I : KI} {B : Nat} {S : Snap} {x : Int32} {post : Int32 → Prop} (hN : NetIs I B S) (hG : Gs S) (hp : ∀ b : Bool, (b = true → ∃ v, v < S.1 0 ∧ x = nI v) → (b = false → x < 0 ∨ nI (S.1 0) ≤ x) → post (bI b)) : wp_X1_hasNode I B x post := by
  have h1 := hG.1
  unfold wp_X1_hasNode
  rw [show I B 3 = nI (S.1 0) from hN.1 0 (by omega)]
  refine ⟨fun c => hp false (fun q => by cases q) (fun _ => Or.inl c), fun c => ⟨fun c2 => hp false (fun q => by cases q) (fun _ => Or.inr c2), fun c2 => hp true (fun _ => ?_) (fun q => by cases q)⟩⟩
  rcases pk_ix x (n := S.1 0) (by omega) with q | q | ⟨j, q1, q2⟩
  · exact absurd q c
  · exact absurd q c2
  · exact ⟨j, q1, q2⟩
theorem sp_isSum {I : KI} {B : Nat} {S : Snap} {x : Int32} {post : Int32 → Prop} (hN : NetIs I B S) (hG : Gs S) (hp : ∀ b : Bool, (b = true → ∃ v, v < 2 ^ S.1 1 ∧ x = nI v) → (b = false → x < 0 ∨ nI (2 ^ S.1 1) ≤ x) → post (bI b)) : wp_X1_isSum I B x post := by
  have h1 := hG.2.1
  have h2 : 2 ^ S.1 1 ≤ 2 ^ 8 := Nat.pow_le_pow_right (by omega) h1.2
  unfold wp_X1_isSum
  rw [show I B 4 = nI (S.1 1) from hN.1 1 (by omega), ni_shl1 _ (by omega)]
  refine ⟨fun c => hp false (fun q => by cases q) (fun _ => Or.inl c), fun c => ⟨fun c2 => hp false (fun q => by cases q) (fun _ => Or.inr c2), fun c2 => hp true (fun _ => ?_) (fun q => by cases q)⟩⟩
  rcases pk_ix x (n := 2 ^ S.1 1) (by omega) with q | q | ⟨j, q1, q2⟩
  · exact absurd q c
  · exact absurd q c2
  · exact ⟨j, q1, q2⟩
theorem sp_neighbours {I : KI} {Q : KQ} {B r v : Nat} {S : Snap} {post : Int32 → Prop} (hQ : NetQ Q B) (hN : NetIs I B S) (hG : Gs S) (hr : r < 2 ^ 31) (hv : v < 6) (hp : post (nI (nbT (S.2.1 (r / S.1 3 % S.1 6)) v (S.1 0)))) : wp_X1_neighbours I Q B (nI r) (nI v) post := by
  obtain ⟨g1, g2, g3, g4, g5, g6, g7, -⟩ := hG
  unfold wp_X1_neighbours
  rw [show I B 6 = nI (S.1 3) from hN.1 3 (by omega), hQ.1, hN.2.1]
  refine br_t (nI_le (a := 1) g4.1 (by omega)) ⟨nI_ne0 (by omega) (by omega), ?_⟩
  rw [pk_div hr (by omega) (by omega)]
  refine sp_leftOver (Nat.lt_of_le_of_lt (Nat.div_le_self _ _) hr) (by omega) (by omega) ?_
  have hlt : r / S.1 3 % S.1 6 < S.1 6 := Nat.mod_lt _ (by omega)
  refine sp_of (by omega) hv ?_
  rw [hQ.2.1, hN.2.2.1 _ hlt v hv]
  exact hp
/-- the ranks of the nodes below i, together; how many of them know all -/
def rksT (S : Snap) : Nat → Nat
  | 0 => 0
  | v + 1 => rksT S v + rk (S.2.2.1 v)
def fulT (S : Snap) : Nat → Nat
  | 0 => 0
  | v + 1 => fulT S v + if rk (S.2.2.1 v) = S.1 1 then 1 else 0
theorem fulT_le (S : Snap) : ∀ i, fulT S i ≤ i := by
  intro i
  induction i with
  | zero => simp [fulT]
  | succ i ih => simp only [fulT]; split <;> omega
theorem lp_ranks {I : KI} {Q : KQ} {B : Nat} {S : Snap} {post : Int32 → Prop} (hQ : NetQ Q B) (hN : NetIs I B S) (hG : Gs S) (hp : post (nI (rksT S (S.1 0)))) : ∀ d i, i + d = S.1 0 → wp_X1_ranks_L4 I Q B post (d + 1) (nI (rksT S i)) (nI i) := by
  have h1 := hG.1
  intro d
  induction d with
  | zero =>
    intro i hi
    have : i = S.1 0 := by omega
    subst this
    unfold wp_X1_ranks_L4
    rw [show I B 3 = nI (S.1 0) from hN.1 0 (by omega)]
    exact br_t (nI_le (Nat.le_refl _) (by omega)) hp
  | succ d ih =>
    intro i hi
    unfold wp_X1_ranks_L4
    rw [show I B 3 = nI (S.1 0) from hN.1 0 (by omega)]
    refine br_f (nI_ge (by omega) (by omega)) ⟨vp_in_nI (by omega) (by decide), ?_⟩
    rw [nI_clamp (by omega), hQ.2.2.1, hQ.2.2.2.2.1 i (by omega)]
    refine sp_rank (f := S.2.2.1 i) (fun t ht => by rw [hQ.2.2.2.2.2 i (by omega)]; exact hN.2.2.2.1 i (by omega) t ht) (fun t ht => hG.f31 (by omega) ht) ?_
    rw [nI_1 i, nI_add]
    exact ih (i + 1) (by omega)
theorem sp_ranks {I : KI} {Q : KQ} {B : Nat} {S : Snap} {post : Int32 → Prop} (hQ : NetQ Q B) (hN : NetIs I B S) (hG : Gs S) (hp : post (nI (rksT S (S.1 0)))) : wp_X1_ranks I Q B post := ⟨S.1 0 + 1, lp_ranks hQ hN hG hp (S.1 0) 0 (by omega)⟩
theorem lp_full {I : KI} {Q : KQ} {B : Nat} {S : Snap} {post : Int32 → Prop} (hQ : NetQ Q B) (hN : NetIs I B S) (hG : Gs S) (hp : post (nI (fulT S (S.1 0)))) : ∀ d i, i + d = S.1 0 → wp_X1_full_L4 I Q B post (d + 1) (nI (fulT S i)) (nI i) := by
  have h1 := hG.1
  have h2 := hG.2.1
  intro d
  induction d with
  | zero =>
    intro i hi
    have : i = S.1 0 := by omega
    subst this
    unfold wp_X1_full_L4
    rw [show I B 3 = nI (S.1 0) from hN.1 0 (by omega)]
    exact br_t (nI_le (Nat.le_refl _) (by omega)) hp
  | succ d ih =>
    intro i hi
    have ih := ih (i + 1) (by omega)
    unfold wp_X1_full_L4
    rw [show I B 3 = nI (S.1 0) from hN.1 0 (by omega), show I B 4 = nI (S.1 1) from hN.1 1 (by omega)]
    refine br_f (nI_ge (by omega) (by omega)) ⟨vp_in_nI (by omega) (by decide), ?_⟩
    rw [nI_clamp (by omega), hQ.2.2.1, hQ.2.2.2.2.1 i (by omega)]
    have hrk := rk_le8 (hG.2.2.2.2.2.2.2.1 i (by omega)).1
    refine sp_rank (f := S.2.2.1 i) (fun t ht => by rw [hQ.2.2.2.2.2 i (by omega)]; exact hN.2.2.2.1 i (by omega) t ht) (fun t ht => hG.f31 (by omega) ht) ?_
    rw [nI_1 i, nI_eq (by omega) (by omega)]
    refine ⟨fun c => ?_, fun c => ?_⟩
    · have e : fulT S (i + 1) = fulT S i := by simp [fulT, c]
      rw [show nI (fulT S i) + (0 : Int32) = nI (fulT S (i + 1)) by rw [e]; exact nI_add _ 0]
      exact ih
    · have e : fulT S (i + 1) = fulT S i + 1 := by simp [fulT, c]
      rw [nI_1, ← e]
      exact ih
theorem sp_full {I : KI} {Q : KQ} {B : Nat} {S : Snap} {post : Int32 → Prop} (hQ : NetQ Q B) (hN : NetIs I B S) (hG : Gs S) (hp : post (nI (fulT S (S.1 0)))) : wp_X1_full I Q B post := ⟨S.1 0 + 1, lp_full hQ hN hG hp (S.1 0) 0 (by omega)⟩
theorem sp_allFull {I : KI} {Q : KQ} {B : Nat} {S : Snap} {post : Int32 → Prop} (hQ : NetQ Q B) (hN : NetIs I B S) (hG : Gs S) (hp : post (bI (decide (fulT S (S.1 0) = S.1 0)))) : wp_X1_allFull I Q B post := by
  have h1 := hG.1
  have h2 := fulT_le S (S.1 0)
  unfold wp_X1_allFull
  refine sp_full hQ hN hG ?_
  rw [show I B 3 = nI (S.1 0) from hN.1 0 (by omega), nI_eq (by omega) (by omega)]
  refine ⟨fun c => ?_, fun c => ?_⟩
  · rw [decide_eq_false c] at hp; exact hp
  · rw [decide_eq_true c] at hp; exact hp
