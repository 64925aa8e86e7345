/-! PURE, 9: a net taken over, told, forgotten; what can be undone -/
theorem cpi_at (I : KI) (a b n : Nat) {j : Nat} (h : j < n) : cpi I a b (0 : Int32).toNatClampNeg (0 : Int32).toNatClampNeg n b j = I a j := by
  unfold cpi
  rw [upk_s, show (0 : Int32).toNatClampNeg = 0 from rfl]
  rw [pk_cpy_in (Nat.zero_le j) (by omega)]
  rw [Nat.sub_zero, Nat.zero_add]
theorem cpi_ne (I : KI) (a b s d n : Nat) {k : Nat} (h : k ≠ b) : cpi I a b s d n k = I k := upk_n h
theorem lp_take {Q : KQ} {B B1 : Nat} {post : KI → Prop} (I0 : KI) (hQ : NetQ Q B) (hQ1 : NetQ Q B1) (hd : B + 16 < B1 ∨ B1 + 16 < B) (hp : ∀ I', (∀ k, (k < B ∨ B + 17 ≤ k) → I' k = I0 k) → I' (B + 1) = I0 (B + 1) → I' (B + 2) = I0 (B + 2) → (∀ v, v < 6 → ∀ t, t < 8 → I' (B + 6 + 2 * v) t = I0 (B1 + 6 + 2 * v) t) → post I') : ∀ d v I, v + d = 6 → (∀ k, (k < B ∨ B + 17 ≤ k) → I k = I0 k) → I (B + 1) = I0 (B + 1) → I (B + 2) = I0 (B + 2) → (∀ u, u < v → ∀ t, t < 8 → I (B + 6 + 2 * u) t = I0 (B1 + 6 + 2 * u) t) → wp_X1_take_L13 Q B B1 post (d + 1) I (nI v) := by
  intro d
  induction d with
  | zero =>
    intro v I hv q1 q2 q3 q4
    have : v = 6 := by omega
    subst this
    unfold wp_X1_take_L13
    exact br_t (nI_le (a := 6) (Nat.le_refl 6) (by decide)) (hp I q1 q2 q3 q4)
  | succ d ih =>
    intro v I hv q1 q2 q3 q4
    have hv6 : v < 6 := by omega
    unfold wp_X1_take_L13
    refine br_f (nI_ge (b := 6) hv6 (by decide)) ⟨vp_in_nI hv6 (by decide), vp_in_nI hv6 (by decide), ?_⟩
    rw [hQ.2.2.1, hQ1.2.2.1, nI_clamp (by omega), hQ.2.2.2.2.1 v hv6, hQ1.2.2.2.2.1 v hv6, nI_1]
    refine sp_stake (hQ.2.2.2.2.2 v hv6) (hQ1.2.2.2.2.2 v hv6) (fun g hg => ?_)
    refine ih (v + 1) _ (by omega) (fun k hk => by rw [upk_n (by omega)]; exact q1 k hk) (by rw [upk_n (by omega)]; exact q2) (by rw [upk_n (by omega)]; exact q3) (fun u hu t ht => ?_)
    by_cases huv : u = v
    · subst huv
      rw [upk_s, hg t ht, q1 _ (by omega)]
    · rw [upk_n (by omega)]
      exact q4 u (by omega) t ht
theorem sp_take {I : KI} {Q : KQ} {B B1 : Nat} {S : Snap} {post : KI → Prop} (hQ : NetQ Q B) (hQ1 : NetQ Q B1) (hd : B + 16 < B1 ∨ B1 + 16 < B) (hN : NetIs I B1 S) (hnets : S.1 6 ≤ 8) (hp : ∀ I', (∀ k, (k < B ∨ B + 17 ≤ k) → I' k = I k) → NetIs I' B S → post I') : wp_X1_take I Q B B1 post := by
  have hne : B1 ≠ B := by omega
  have hs : ∀ (X : KI) (j : Nat) (v : Int32), sti X B j v B1 = X B1 := fun X j v => sti_ne X j v hne
  obtain ⟨n1, n2, n3, n4, n5⟩ := hN
  unfold wp_X1_take wp_X4_take
  rw [hQ.1, hQ1.1, hQ.2.1, hQ1.2.1]
  refine ⟨7, ?_⟩
  refine lp_take _ hQ hQ1 hd (fun I2 w1 w2 w3 w4 => ?_) 6 0 _ rfl (fun _ _ => rfl) rfl rfl (fun u hu => absurd hu (Nat.not_lt_zero u))
  have f1 : ∀ k, (k < B ∨ B + 17 ≤ k) → I2 k = I k := fun k hk => by
    rw [w1 k hk, sti_ne _ _ _ (by omega), cpi_ne _ _ _ _ _ _ (by omega)]
  have f2 : I2 (B + 1) 1 = nI (S.1 6) := by
    rw [w2, sti_at, pk_us, cpi_ne _ _ _ _ _ _ (by omega)]
    exact n2
  have f3 : ∀ j, j < 48 → I2 (B + 2) j = I (B1 + 2) j := fun j hj => by
    rw [w3, sti_ne _ _ _ (by omega)]
    exact cpi_at I (B1 + 2) (B + 2) 48 hj
  have f4 : ∀ v, v < 6 → ∀ t, t < 8 → I2 (B + 6 + 2 * v) t = nI (S.2.2.1 v t) := fun v hv t ht => by
    rw [w4 v hv t ht, sti_ne _ _ _ (by omega), cpi_ne _ _ _ _ _ _ (by omega)]
    exact n4 v hv t ht
  rw [hQ.2.2.2.1, hQ1.2.2.2.1]
  simp only [hs]
  obtain ⟨J, hJ⟩ : ∃ J, J = cpi I2 (B1 + 4) (B + 4) (0 : Int32).toNatClampNeg (0 : Int32).toNatClampNeg (6 : Int32).toNatClampNeg := ⟨_, rfl⟩
  rw [← hJ]
  have j1 : ∀ k, k ≠ B + 4 → J k = I2 k := fun k hk => by rw [hJ, cpi_ne _ _ _ _ _ _ hk]
  have j2 : ∀ v, v < 6 → J (B + 4) v = nI (S.2.2.2 v) := fun v hv => by
    rw [hJ]
    rw [show (6 : Int32).toNatClampNeg = 6 from rfl, cpi_at I2 (B1 + 4) (B + 4) 6 hv, f1 _ (by omega)]
    exact n5 v hv
  have jB : ∀ i, i < 6 → J B1 (3 + i) = nI (S.1 i) := fun i hi => by
    rw [j1 _ (by omega), f1 _ (by omega)]
    exact n1 i hi
  rw [jB 0 (by omega), jB 1 (by omega), jB 2 (by omega), jB 3 (by omega), jB 4 (by omega), jB 5 (by omega)]
  refine hp _ (fun k hk => ?_) ⟨fun i hi => ?_, ?_, fun i hi v hv => ?_, fun v hv t ht => ?_, fun v hv => ?_⟩
  · rw [sti_ne _ _ _ (by omega), sti_ne _ _ _ (by omega), sti_ne _ _ _ (by omega), sti_ne _ _ _ (by omega), sti_ne _ _ _ (by omega), sti_ne _ _ _ (by omega), j1 k (by omega)]
    exact f1 k hk
  · rcases (show i = 0 ∨ i = 1 ∨ i = 2 ∨ i = 3 ∨ i = 4 ∨ i = 5 by omega) with rfl | rfl | rfl | rfl | rfl | rfl <;> simp [sti_at, upd]
  · rw [sti_ne _ _ _ (by omega), sti_ne _ _ _ (by omega), sti_ne _ _ _ (by omega), sti_ne _ _ _ (by omega), sti_ne _ _ _ (by omega), sti_ne _ _ _ (by omega), j1 _ (by omega)]
    exact f2
  · rw [sti_ne _ _ _ (by omega), sti_ne _ _ _ (by omega), sti_ne _ _ _ (by omega), sti_ne _ _ _ (by omega), sti_ne _ _ _ (by omega), sti_ne _ _ _ (by omega), j1 _ (by omega), f3 _ (by omega)]
    exact n3 i hi v hv
  · rw [sti_ne _ _ _ (by omega), sti_ne _ _ _ (by omega), sti_ne _ _ _ (by omega), sti_ne _ _ _ (by omega), sti_ne _ _ _ (by omega), sti_ne _ _ _ (by omega), j1 _ (by omega)]
    exact f4 v hv t ht
  · rw [sti_ne _ _ _ (by omega), sti_ne _ _ _ (by omega), sti_ne _ _ _ (by omega), sti_ne _ _ _ (by omega), sti_ne _ _ _ (by omega), sti_ne _ _ _ (by omega)]
    exact j2 v hv
/-- what is lost by another n, k -/
def forgS (S : Snap) : Snap := (upk S.1 4 0, S.2.1, fun _ _ => 0, fun _ => 0)
theorem lp_forget {Q : KQ} {B : Nat} {S : Snap} {post : KI → Prop} (I0 : KI) (hQ : NetQ Q B) (hN : NetIs I0 B S) (hp : ∀ I', (∀ k, (k < B ∨ B + 17 ≤ k) → I' k = I0 k) → NetIs I' B (forgS S) → post I') : ∀ d v I, v + d = 6 → (∀ k, (k < B ∨ B + 17 ≤ k) → I k = I0 k) → I B = I0 B → I (B + 1) = I0 (B + 1) → I (B + 2) = I0 (B + 2) → (∀ u, u < v → (∀ t, t < 8 → I (B + 6 + 2 * u) t = 0) ∧ I (B + 4) u = 0) → wp_X1_forget_L2 Q B post (d + 1) I (nI v) := by
  intro d
  induction d with
  | zero =>
    intro v I hv q1 q2 q3 q4 q5
    have : v = 6 := by omega
    subst this
    unfold wp_X1_forget_L2
    refine br_t (nI_le (a := 6) (Nat.le_refl 6) (by decide)) (hp _ (fun k hk => by rw [sti_ne _ _ _ (by omega)]; exact q1 k hk) ?_)
    refine ⟨fun i hi => ?_, by rw [sti_ne _ _ _ (by omega), q3]; exact hN.2.1, fun i hi => by rw [sti_ne _ _ _ (by omega), q4]; exact hN.2.2.1 i hi, fun u hu t ht => by rw [sti_ne _ _ _ (by omega)]; exact (q5 u hu).1 t ht, fun u hu => by rw [sti_ne _ _ _ (by omega)]; exact (q5 u hu).2⟩
    rw [sti_at]
    show _ = nI (upk S.1 4 0 i)
    by_cases h4 : i = 4
    · subst h4; rw [upk_s]; rfl
    · rw [pk_un (by omega), upk_n h4, q2]
      exact hN.1 i hi
  | succ d ih =>
    intro v I hv q1 q2 q3 q4 q5
    have hv6 : v < 6 := by omega
    unfold wp_X1_forget_L2
    refine br_f (nI_ge (b := 6) hv6 (by decide)) ⟨vp_in_nI hv6 (by decide), ?_⟩
    rw [hQ.2.2.1, nI_clamp (by omega), hQ.2.2.2.2.1 v hv6, hQ.2.2.2.1, nI_1]
    refine sp_empty (hQ.2.2.2.2.2 v hv6) (fun g hg => ⟨vp_in_nI hv6 (by decide), ?_⟩)
    refine ih (v + 1) _ (by omega) (fun k hk => by rw [sti_ne _ _ _ (by omega), upk_n (by omega)]; exact q1 k hk) (by rw [sti_ne _ _ _ (by omega), upk_n (by omega)]; exact q2) (by rw [sti_ne _ _ _ (by omega), upk_n (by omega)]; exact q3) (by rw [sti_ne _ _ _ (by omega), upk_n (by omega)]; exact q4) (fun u hu => ⟨fun t ht => ?_, ?_⟩)
    · rw [sti_ne _ _ _ (by omega)]
      by_cases huv : u = v
      · subst huv; rw [upk_s]; exact hg t ht
      · rw [upk_n (by omega)]; exact (q5 u (by omega)).1 t ht
    · rw [sti_at]
      by_cases huv : u = v
      · subst huv; rw [pk_us]
      · rw [pk_un huv, upk_n (by omega)]; exact (q5 u (by omega)).2
theorem sp_forget {I : KI} {Q : KQ} {B : Nat} {S : Snap} {post : KI → Prop} (hQ : NetQ Q B) (hN : NetIs I B S) (hp : ∀ I', (∀ k, (k < B ∨ B + 17 ≤ k) → I' k = I k) → NetIs I' B (forgS S) → post I') : wp_X1_forget I Q B post := ⟨7, lp_forget I hQ hN hp 6 0 I rfl (fun _ _ => rfl) rfl rfl rfl (fun u hu => absurd hu (Nat.not_lt_zero u))⟩
/-- n told anew: the path alone, nothing known -/
def newN (S : Snap) (n : Nat) : Snap := forgS (upk (upk S.1 0 n) 6 1, fun _ => ptT n, S.2.2)
def becS (S : Snap) (w v : Nat) : Snap := if w = 0 then newN S v else if w = 1 then forgS (setC S 1 v) else setC S w v
theorem sp_become {I : KI} {Q : KQ} {B w v : Nat} {S : Snap} {post : KI → Prop} (hQ : NetQ Q B) (hN : NetIs I B S) (hw : w < 4) (hv : w = 0 → 2 ≤ v ∧ v ≤ 6) (hp : ∀ I', (∀ k, (k < B ∨ B + 17 ≤ k) → I' k = I k) → NetIs I' B (becS S w v) → post I') : wp_X1_become I Q B (nI w) (nI v) post := by
  unfold wp_X1_become
  rcases (show w = 0 ∨ w = 1 ∨ w = 2 ∨ w = 3 by omega) with rfl | rfl | rfl | rfl
  · obtain ⟨hv2, hv6⟩ := hv rfl
    refine ⟨fun _ => ?_, fun c => absurd c (by decide), fun c => absurd c (by decide), fun c => absurd rfl c⟩
    rw [hQ.1]
    refine sp_begin (i := 0) (by omega) (by rw [hQ.2.1]; omega) (fun g g1 _ => ?_)
    rw [hQ.2.1]
    have e3 : sti (upk (sti I B 3 (nI v)) (B + 2) g) (B + 1) 1 (nI (0 + 1)) B 3 = nI v := by
      rw [sti_ne _ _ _ (by omega), upk_n (by omega), sti_at, pk_us]
    rw [e3]
    refine sp_path (i := 0) (by omega) hv6 (by omega) (by rw [hQ.2.1, sti_ne _ _ _ (by omega), upk_s]; exact g1 v) (fun g2 h2 _ => ?_)
    rw [hQ.2.1]
    refine sp_forget (S := (upk (upk S.1 0 v) 6 1, fun _ => ptT v, S.2.2)) hQ ?_ (fun I' w1 w2 => hp I' (fun k hk => by rw [w1 k hk, upk_n (by omega), sti_ne _ _ _ (by omega), upk_n (by omega), sti_ne _ _ _ (by omega)]) w2)
    refine ⟨fun i hi => ?_, ?_, fun i hi => ?_, fun u hu t ht => ?_, fun u hu => ?_⟩
    · rw [upk_n (by omega), sti_ne _ _ _ (by omega), upk_n (by omega), sti_at]
      show _ = nI (upk (upk S.1 0 v) 6 1 i)
      rw [upk_n (by omega)]
      by_cases h0 : i = 0
      · subst h0; rw [upk_s]; rfl
      · rw [upk_n h0, pk_un (by omega)]; exact hN.1 i hi
    · rw [upk_n (by omega), sti_at, pk_us]
      show nI 1 = nI (upk (upk S.1 0 v) 6 1 6)
      rw [upk_s]
    · have hi0 : i = 0 := by
        have : i < upk (upk S.1 0 v) 6 1 6 := hi
        rw [upk_s] at this
        omega
      subst hi0
      rw [upk_s]
      show RowL g2 0 (ptT v) (upk (upk S.1 0 v) 6 1 0)
      rw [upk_n (by decide), upk_s]
      exact h2
    · rw [upk_n (by omega), sti_ne _ _ _ (by omega), upk_n (by omega), sti_ne _ _ _ (by omega)]
      exact hN.2.2.2.1 u hu t ht
    · rw [upk_n (by omega), sti_ne _ _ _ (by omega), upk_n (by omega), sti_ne _ _ _ (by omega)]
      exact hN.2.2.2.2 u hu
  · refine ⟨fun c => absurd c (by decide), fun _ => ?_, fun c => absurd c (by decide), fun _ c => absurd rfl c⟩
    exact sp_forget hQ (hN.stC (i := 1) (x := v) (by omega) (by omega)) (fun I' w1 w2 => hp I' (fun k hk => by rw [w1 k hk, sti_ne _ _ _ (by omega)]) w2)
  · refine ⟨fun c => absurd c (by decide), fun c => absurd c (by decide), fun _ => ?_, fun _ _ c => absurd rfl c⟩
    exact hp _ (fun k hk => by rw [sti_ne _ _ _ (by omega)]) (hN.stC (i := 2) (x := v) (by omega) (by omega))
  · refine ⟨fun c => absurd c (by decide), fun c => absurd c (by decide), fun c => absurd c (by decide), fun _ _ _ => ?_⟩
    exact hp _ (fun k hk => by rw [sti_ne _ _ _ (by omega)]) (hN.stC (i := 3) (x := v) (by omega) (by omega))
/-! the past at P: its row of states at P + 1, six nets of 17 cells behind it, in any order -/
def PastQ (Q : KQ) (P : Nat) (π : Nat → Nat) : Prop := rq Q P 0 = P + 1 ∧ (∀ i, i < 6 → rq Q (P + 1) i = π i ∧ (∃ j, j < 6 ∧ π i = P + 2 + 17 * j) ∧ NetQ Q (π i)) ∧ ∀ i, i < 6 → ∀ j, j < 6 → i ≠ j → π i ≠ π j
def PastI (I : KI) (P : Nat) (π : Nat → Nat) (m : Nat) (hs : Nat → Snap) : Prop := I P 1 = nI m ∧ m ≤ 6 ∧ ∀ i, i < m → NetIs I (π i) (hs i)
theorem PastQ.at {Q : KQ} {P : Nat} {π : Nat → Nat} (h : PastQ Q P π) {i : Nat} (hi : i < 6) : P + 2 ≤ π i ∧ π i + 17 ≤ P + 104 := by
  obtain ⟨-, ⟨j, hj, e⟩, -⟩ := h.2.1 i hi
  omega
theorem PastQ.apart {Q : KQ} {P : Nat} {π : Nat → Nat} (h : PastQ Q P π) {i j : Nat} (hi : i < 6) (hj : j < 6) (hij : i ≠ j) : π i + 16 < π j ∨ π j + 16 < π i := by
  obtain ⟨-, ⟨a, ha, e1⟩, -⟩ := h.2.1 i hi
  obtain ⟨-, ⟨b, hb, e2⟩, -⟩ := h.2.1 j hj
  have := h.2.2 i hi j hj hij
  omega
theorem NetQ.fr {Q Q' : KQ} {B : Nat} (h : NetQ Q B) (hf : ∀ k, B ≤ k → k < B + 17 → Q' k = Q k) : NetQ Q' B := by
  have e : ∀ k j, B ≤ k → k < B + 17 → rq Q' k j = rq Q k j := fun k j h1 h2 => by unfold rq; rw [hf k h1 h2]
  obtain ⟨h1, h2, h3, h4, h5, h6⟩ := h
  refine ⟨by rw [e _ _ (by omega) (by omega)]; exact h1, by rw [e _ _ (by omega) (by omega)]; exact h2, by rw [e _ _ (by omega) (by omega)]; exact h3, by rw [e _ _ (by omega) (by omega)]; exact h4, fun v hv => by rw [e _ _ (by omega) (by omega)]; exact h5 v hv, fun v hv => by rw [e _ _ (by omega) (by omega)]; exact h6 v hv⟩
theorem rq_stq (Q : KQ) (k j k1 : Nat) : rq (stq Q k j k1) k j = k1 := by simp [rq, stq, upk, va_up]
theorem rq_stq_n (Q : KQ) (k j k1 : Nat) {i : Nat} (h : i ≠ j) : rq (stq Q k j k1) k i = rq Q k i := by simp [rq, stq, upk, va_up, h]
theorem stq_ne (Q : KQ) (k j k1 : Nat) {q : Nat} (h : q ≠ k) : stq Q k j k1 q = Q q := upk_n h
theorem rq_stq_o (Q : KQ) (k j k1 : Nat) {q i : Nat} (h : q ≠ k) : rq (stq Q k j k1) q i = rq Q q i := by unfold rq; rw [stq_ne _ _ _ _ h]
theorem lp_lose {I : KI} {P a0 : Nat} {π : Nat → Nat} {post : KI → KQ → Prop} (Q0 : KQ) (h0 : rq Q0 P 0 = P + 1) (hpi : ∀ i, i < 6 → rq Q0 (P + 1) i = π i) (ha : a0 = π 0) (hp : ∀ Q', (∀ k, k ≠ P + 1 → Q' k = Q0 k) → (∀ i, i < 6 → rq Q' (P + 1) i = if i < 5 then π (i + 1) else π 0) → post (sti I P 1 5) Q') : ∀ d i Q, i + d = 6 → 1 ≤ i → (∀ k, k ≠ P + 1 → Q k = Q0 k) → (∀ j, j < 6 → rq Q (P + 1) j = if j + 1 < i then π (j + 1) else π j) → wp_X3_loseOldest_L9 I P a0 post (d + 1) Q (nI i) := by
  intro d
  induction d with
  | zero =>
    intro i Q hi h1 q1 q2
    have : i = 6 := by omega
    subst this
    have hP : rq Q P 0 = P + 1 := by unfold rq; rw [q1 P (by omega)]; exact h0
    unfold wp_X3_loseOldest_L9
    rw [hP]
    refine br_t (nI_le (a := 6) (Nat.le_refl 6) (by decide)) ?_
    refine hp _ (fun k hk => by rw [stq_ne _ _ _ _ hk]; exact q1 k hk) (fun j hj => ?_)
    rw [show (5 : Int32).toNatClampNeg = 5 from rfl]
    by_cases h5 : j = 5
    · subst h5
      rw [rq_stq, if_neg (by omega), ha]
    · rw [rq_stq_n _ _ _ _ h5, q2 j hj, if_pos (by omega), if_pos (by omega)]
  | succ d ih =>
    intro i Q hi h1 q1 q2
    have hP : rq Q P 0 = P + 1 := by unfold rq; rw [q1 P (by omega)]; exact h0
    unfold wp_X3_loseOldest_L9
    rw [hP, show nI i - (1 : Int32) = nI (i - 1) from pk_sub (a := i) (b := 1) h1, nI_clamp (n := i) (by omega), nI_clamp (n := i - 1) (by omega), nI_1]
    refine br_f (nI_ge (b := 6) (by omega) (by decide)) ⟨vp_in_nI (by omega) (by decide), vp_in_nI (by omega) (by decide), ?_⟩
    refine ih (i + 1) _ (by omega) (by omega) (fun k hk => by rw [stq_ne _ _ _ _ hk]; exact q1 k hk) (fun j hj => ?_)
    by_cases hj1 : j = i - 1
    · subst hj1
      rw [rq_stq, q2 i (by omega), if_neg (by omega), if_pos (by omega)]
      congr 1
      omega
    · rw [rq_stq_n _ _ _ _ hj1, q2 j hj]
      by_cases hlt : j + 1 < i
      · rw [if_pos hlt, if_pos (by omega)]
      · rw [if_neg hlt, if_neg (by omega)]
/-- the latest states, one more -/
def keepN (m : Nat) : Nat := if m < 6 then m + 1 else 6
def keepH (m : Nat) (hs : Nat → Snap) (S : Snap) : Nat → Snap := if m < 6 then upk hs m S else fun i => if i < 5 then hs (i + 1) else S
theorem sp_keep {I : KI} {Q : KQ} {P B m : Nat} {π : Nat → Nat} {hs : Nat → Snap} {S : Snap} {post : KI → KQ → Prop} (hQ : PastQ Q P π) (hI : PastI I P π m hs) (hQB : NetQ Q B) (hN : NetIs I B S) (h8 : S.1 6 ≤ 8) (hd : B + 16 < P ∨ P + 104 ≤ B) (hp : ∀ I' Q' π', (∀ k, (k < P ∨ P + 104 ≤ k) → I' k = I k) → (∀ k, k ≠ P + 1 → Q' k = Q k) → PastQ Q' P π' → PastI I' P π' (keepN m) (keepH m hs S) → post I' Q') : wp_X3_keep I Q P B post := by
  obtain ⟨i1, i2, i3⟩ := hI
  unfold wp_X3_keep
  rw [i1]
  by_cases hm : m < 6
  · refine br_t (nI_lt hm (by decide)) ⟨vp_in_nI hm (by decide), ?_⟩
    obtain ⟨z1, -, z3⟩ := hQ.2.1 m hm
    have hat := hQ.at hm
    rw [hQ.1, nI_clamp (by omega), z1]
    refine sp_take z3 hQB (by omega) hN h8 (fun I' w1 w2 => ?_)
    rw [w1 P (by omega), i1, nI_1]
    refine hp _ _ π (fun k hk => by rw [sti_ne _ _ _ (by omega)]; exact w1 k (by omega)) (fun _ _ => rfl) hQ ⟨by rw [sti_at, pk_us, keepN, if_pos hm], by unfold keepN; rw [if_pos hm]; omega, fun i hi => ?_⟩
    unfold keepN at hi
    rw [if_pos hm] at hi
    unfold keepH
    rw [if_pos hm]
    have hat2 := hQ.at (i := i) (by omega)
    by_cases him : i = m
    · subst him
      rw [upk_s]
      exact w2.fr (fun k h1 h2 => sti_ne _ _ _ (by omega))
    · rw [upk_n him]
      have hap := hQ.apart (i := i) (j := m) (by omega) hm him
      exact (i3 i (by omega)).fr (fun k h1 h2 => by rw [sti_ne _ _ _ (by omega)]; exact w1 k (by omega))
  · have hm6 : m = 6 := by omega
    subst hm6
    refine br_f (nI_nlt (a := 6) (Nat.le_refl 6) (by decide)) ⟨6, ?_⟩
    rw [hQ.1, show (0 : Int32).toNatClampNeg = 0 from rfl]
    refine lp_lose (π := π) Q hQ.1 (fun i hi => (hQ.2.1 i hi).1) (hQ.2.1 0 (by omega)).1 (fun Q1 w1 w2 => ?_) 5 1 Q rfl (Nat.le_refl 1) (fun _ _ => rfl) (fun j hj => by rw [if_neg (by omega)]; exact (hQ.2.1 j hj).1)
    rw [sti_at, pk_us]
    refine ⟨vp_in_nI (n := 5) (by omega) (by decide), ?_⟩
    have hrq : ∀ k j, k ≠ P + 1 → rq Q1 k j = rq Q k j := fun k j hk => by unfold rq; rw [w1 k hk]
    obtain ⟨π', hπ⟩ : ∃ π' : Nat → Nat, ∀ i, π' i = if i < 5 then π (i + 1) else π 0 := ⟨_, fun _ => rfl⟩
    have e5 : ∀ i, i < 5 → π' i = π (i + 1) := fun i hi => by rw [hπ, if_pos hi]
    have e6 : π' 5 = π 0 := by rw [hπ, if_neg (by omega)]
    have hQ1 : PastQ Q1 P π' := by
      refine ⟨by rw [hrq _ _ (by omega)]; exact hQ.1, fun i hi => ⟨by rw [w2 i hi, hπ], ?_, ?_⟩, fun i hi j hj hij => ?_⟩
      · by_cases h5 : i < 5
        · rw [e5 i h5]; exact (hQ.2.1 (i + 1) (by omega)).2.1
        · rw [show i = 5 by omega, e6]; exact (hQ.2.1 0 (by omega)).2.1
      · by_cases h5 : i < 5
        · rw [e5 i h5]
          have hat := hQ.at (i := i + 1) (by omega)
          exact (hQ.2.1 (i + 1) (by omega)).2.2.fr (fun k h1 h2 => w1 k (by omega))
        · rw [show i = 5 by omega, e6]
          have hat := hQ.at (i := 0) (by omega)
          exact (hQ.2.1 0 (by omega)).2.2.fr (fun k h1 h2 => w1 k (by omega))
      · by_cases h5 : i < 5
        · by_cases h6 : j < 5
          · rw [e5 i h5, e5 j h6]; exact hQ.2.2 _ (by omega) _ (by omega) (by omega)
          · rw [e5 i h5, show j = 5 by omega, e6]; exact hQ.2.2 _ (by omega) _ (by omega) (by omega)
        · by_cases h6 : j < 5
          · rw [e5 j h6, show i = 5 by omega, e6]; exact hQ.2.2 _ (by omega) _ (by omega) (by omega)
          · omega
    obtain ⟨z1, -, z3⟩ := hQ1.2.1 5 (by omega)
    have hat := hQ1.at (i := 5) (by omega)
    rw [hQ1.1, show (5 : Int32).toNatClampNeg = 5 from rfl, z1]
    refine sp_take (S := S) z3 (hQB.fr (fun k h1 h2 => w1 k (by omega))) (by omega) (hN.fr (fun k h1 h2 => sti_ne _ _ _ (by omega))) h8 (fun I' y1 y2 => ?_)
    rw [y1 P (by omega), sti_at, pk_us]
    refine hp _ _ π' (fun k hk => by rw [sti_ne _ _ _ (by omega), y1 k (by omega), sti_ne _ _ _ (by omega)]) w1 hQ1 ⟨by rw [sti_at, pk_us]; rfl, by decide, fun i hi => ?_⟩
    have hi6 : i < 6 := hi
    have hat2 := hQ1.at hi6
    show NetIs _ _ (if i < 5 then hs (i + 1) else S)
    by_cases hi5 : i < 5
    · rw [if_pos hi5]
      have hap := hQ1.apart (i := i) (j := 5) hi6 (by omega) (by omega)
      have h3 := i3 (i + 1) (by omega)
      rw [← e5 i hi5] at h3
      exact h3.fr (fun k h1 h2 => by rw [sti_ne _ _ _ (by omega), y1 k (by omega), sti_ne _ _ _ (by omega)])
    · have : i = 5 := by omega
      subst this
      rw [if_neg hi5]
      exact y2.fr (fun k h1 h2 => sti_ne _ _ _ (by omega))
theorem sp_back {I : KI} {Q : KQ} {P B m : Nat} {π : Nat → Nat} {hs : Nat → Snap} {post : Int32 → KI → Prop} (hQ : PastQ Q P π) (hI : PastI I P π m hs) (h8 : ∀ i, i < m → (hs i).1 6 ≤ 8) (hQB : NetQ Q B) (hd : B + 16 < P ∨ P + 104 ≤ B) (hp0 : m = 0 → post 0 I) (hp : ∀ I', 1 ≤ m → (∀ k, k ≠ P → (k < B ∨ B + 17 ≤ k) → I' k = I k) → PastI I' P π (m - 1) hs → NetIs I' B (hs (m - 1)) → post 1 I') : wp_X3_back I Q P B post := by
  obtain ⟨i1, i2, i3⟩ := hI
  unfold wp_X3_back
  rw [i1]
  by_cases hm : 1 ≤ m
  · refine br_t (nI_le (a := 1) hm (by omega)) ?_
    rw [show nI m - (1 : Int32) = nI (m - 1) from pk_sub (a := m) (b := 1) hm, sti_at, pk_us]
    refine ⟨vp_in_nI (by omega) (by decide), ?_⟩
    obtain ⟨z1, -, z3⟩ := hQ.2.1 (m - 1) (by omega)
    have hat := hQ.at (i := m - 1) (by omega)
    rw [hQ.1, nI_clamp (by omega), z1]
    refine sp_take hQB z3 (by omega) ((i3 (m - 1) (by omega)).fr (fun k h1 h2 => sti_ne _ _ _ (by omega))) (h8 _ (by omega)) (fun I' w1 w2 => ?_)
    refine hp I' hm (fun k h1 h2 => by rw [w1 k h2, sti_ne _ _ _ h1]) ⟨by rw [w1 P (by omega), sti_at, pk_us], by omega, fun i hi => ?_⟩ w2
    have hat2 := hQ.at (i := i) (by omega)
    exact (i3 i (by omega)).fr (fun k h1 h2 => by rw [w1 k (by omega), sti_ne _ _ _ (by omega)])
  · refine br_f (fun c => hm ?_) (hp0 (by omega))
    exact (nI_leI (a := 1) (by decide) (by omega)).mp c
theorem lp_ptake {Q : KQ} {P P1 m : Nat} {π π1 : Nat → Nat} {hs : Nat → Snap} {post : KI → Prop} (I0 : KI) (hQ : PastQ Q P π) (hQ1 : PastQ Q P1 π1) (hI1 : PastI I0 P1 π1 m hs) (h8 : ∀ i, i < m → (hs i).1 6 ≤ 8) (hd : P + 104 ≤ P1 ∨ P1 + 104 ≤ P) (hp : ∀ I', (∀ k, (k < P ∨ P + 104 ≤ k) → I' k = I0 k) → PastI I' P π m hs → post I') : ∀ d i I, i + d = m → (∀ k, (k < P + 1 ∨ P + 104 ≤ k) → I k = I0 k) → (∀ j, j < i → NetIs I (π j) (hs j)) → wp_X3_take_L2 Q P P1 post (d + 1) I (nI i) := by
  obtain ⟨i1, i2, i3⟩ := hI1
  intro d
  induction d with
  | zero =>
    intro i I hi q1 q2
    have : i = m := by omega
    subst this
    unfold wp_X3_take_L2
    rw [q1 P1 (by omega), i1]
    refine br_t (nI_le (Nat.le_refl _) (by omega)) (hp _ (fun k hk => by rw [sti_ne _ _ _ (by omega)]; exact q1 k (by omega)) ⟨by rw [sti_at, pk_us], i2, fun j hj => ?_⟩)
    have hat := hQ.at (i := j) (by omega)
    exact (q2 j hj).fr (fun k h1 h2 => sti_ne _ _ _ (by omega))
  | succ d ih =>
    intro i I hi q1 q2
    have hi6 : i < 6 := by omega
    obtain ⟨z1, -, z3⟩ := hQ.2.1 i hi6
    obtain ⟨y1, -, y3⟩ := hQ1.2.1 i hi6
    have hat := hQ.at hi6
    have hat1 := hQ1.at hi6
    unfold wp_X3_take_L2
    rw [q1 P1 (by omega), i1]
    refine br_f (nI_ge (by omega) (by omega)) ⟨vp_in_nI hi6 (by decide), vp_in_nI hi6 (by decide), ?_⟩
    rw [hQ.1, hQ1.1, nI_clamp (by omega), z1, y1, nI_1]
    refine sp_take z3 y3 (by omega) ((i3 i (by omega)).fr (fun k h1 h2 => q1 k (by omega))) (h8 i (by omega)) (fun I' w1 w2 => ?_)
    refine ih (i + 1) I' (by omega) (fun k hk => by rw [w1 k (by omega)]; exact q1 k hk) (fun j hj => ?_)
    by_cases hji : j = i
    · subst hji; exact w2
    · have hap := hQ.apart (i := j) (j := i) (by omega) hi6 hji
      exact (q2 j (by omega)).fr (fun k h1 h2 => w1 k (by omega))
theorem sp_ptake {I : KI} {Q : KQ} {P P1 m : Nat} {π π1 : Nat → Nat} {hs : Nat → Snap} {post : KI → Prop} (hQ : PastQ Q P π) (hQ1 : PastQ Q P1 π1) (hI1 : PastI I P1 π1 m hs) (h8 : ∀ i, i < m → (hs i).1 6 ≤ 8) (hd : P + 104 ≤ P1 ∨ P1 + 104 ≤ P) (hp : ∀ I', (∀ k, (k < P ∨ P + 104 ≤ k) → I' k = I k) → PastI I' P π m hs → post I') : wp_X3_take I Q P P1 post := ⟨m + 1, lp_ptake I hQ hQ1 hI1 h8 hd hp m 0 I (by omega) (fun _ _ => rfl) (fun j hj => absurd hj (Nat.not_lt_zero j))⟩
