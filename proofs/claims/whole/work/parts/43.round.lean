/-! PURE, 5: what is sent, a round -/
theorem rk_heads {f : Nat → Nat} {k : Nat} (h : Gb f k) : ∀ i, i ≤ 8 → (∀ t, t < i → t < k → f t ≠ 0) ∨ rkT f i + 1 ≤ min i k := by
  intro i
  induction i with
  | zero => intro _; exact Or.inl (fun t h => absurd h (Nat.not_lt_zero t))
  | succ i ih =>
    intro hi
    have hle := rkT_le f h i (by omega)
    have hle2 := rkT_le f h (i + 1) hi
    by_cases hfi : f i = 0
    · by_cases hik : i < k
      · refine Or.inr ?_
        have e : rkT f (i + 1) = rkT f i := by simp [rkT, hfi]
        omega
      · rcases ih (by omega) with q | q
        · refine Or.inl (fun t h1 h2 => q t ?_ h2)
          omega
        · refine Or.inr ?_
          have e : rkT f (i + 1) = rkT f i := by simp [rkT, hfi]
          omega
    · have hk := (h.1 i (by omega) hfi).2.2
      rcases ih (by omega) with q | q
      · refine Or.inl (fun t h1 h2 => ?_)
        by_cases hti : t = i
        · subst hti; exact hfi
        · exact q t (by omega) h2
      · refine Or.inr ?_
        have e : rkT f (i + 1) = rkT f i + 1 := by simp [rkT, hfi]
        omega
theorem red_full {f : Nat → Nat} {k : Nat} (h : Gb f k) (hk : k ≤ 8) (hr : rk f = k) {x : Nat} (hx : x < 2 ^ k) : red f x = 0 := by
  have hh : ∀ t, t < k → f t ≠ 0 := by
    rcases rk_heads h 8 (Nat.le_refl 8) with q | q
    · exact fun t ht => q t (by omega) ht
    · have : rkT f 8 = k := hr
      omega
  have hlt := red_lt h hx (Nat.le_refl k)
  apply Nat.eq_of_testBit_eq
  intro j
  rw [Nat.zero_testBit]
  by_cases hj : j < k
  · exact red_head h (by omega) (hh j hj) x
  · exact Nat.testBit_lt_two_pow (Nat.lt_of_lt_of_le hlt (Nat.pow_le_pow_right (by omega) (by omega)))
theorem fold_full {f : Nat → Nat} {k : Nat} (h : Gb f k) (hk : k ≤ 8) (hr : rk f = k) : ∀ xs : List Nat, (∀ x ∈ xs, x < 2 ^ k) → xs.foldl adS f = f := by
  intro xs
  induction xs with
  | nil => intro _; rfl
  | cons x xs ih =>
    intro hx
    have e : adS f x = f := by unfold adS; rw [if_pos (red_full h hk hr (hx x List.mem_cons_self))]
    rw [List.foldl_cons, e]
    exact ih (fun y hy => hx y (List.mem_cons_of_mem _ hy))
theorem Gb_fold {k : Nat} (hk : k ≤ 8) : ∀ (xs : List Nat) (f : Nat → Nat), Gb f k → (∀ x ∈ xs, x < 2 ^ k) → Gb (xs.foldl adS f) k ∧ rk f ≤ rk (xs.foldl adS f) := by
  intro xs
  induction xs with
  | nil => intro f h _; exact ⟨h, Nat.le_refl _⟩
  | cons x xs ih =>
    intro f h hx
    have hx0 := hx x List.mem_cons_self
    obtain ⟨h1, h2⟩ := ih (adS f x) (Gb_adS h hk hx0) (fun y hy => hx y (List.mem_cons_of_mem _ hy))
    have h3 := rk_adS h hk hx0
    refine ⟨h1, ?_⟩
    rw [List.foldl_cons]
    omega
/-- the round's rows: sums (48), many (6), a space on trial -/
def RndQ (Q : KQ) (R : Nat) : Prop := rq Q R 0 = R + 1 ∧ rq Q R 1 = R + 2 ∧ rq Q R 2 = R + 3 ∧ rq Q (R + 3) 0 = R + 4
/-- what is sent stands in the round's rows -/
def SentIs (I : KI) (R : Nat) (L : Nat → List Nat) (n : Nat) : Prop := ∀ v, v < n → I (R + 2) v = nI (L v).length ∧ (L v).length ≤ 8 ∧ ∀ j, j < (L v).length → I (R + 1) (8 * v + j) = nI ((L v).getD j 0)
theorem rd_at (v j : Nat) : (nI v * (8 : Int32)) + nI j = nI (8 * v + j) := by
  rw [show nI v * (8 : Int32) = nI (v * 8) from pk_mul v 8, nI_add, Nat.mul_comm]
theorem drop_getD (xs : List Nat) {i : Nat} (h : i < xs.length) : xs.drop i = xs.getD i 0 :: xs.drop (i + 1) := by
  rw [List.drop_eq_getElem_cons h]
  simp [h]
theorem lp_del1 {Q : KQ} {R h a k r0 u : Nat} {xs : List Nat} {kk : KI → Int32 → Prop} (I : KI) (hR : RndQ Q R) (ha : rq Q h 0 = a) (hne : a ≠ R + 1) (hk : k ≤ 8) (hu : u < 6) (hl8 : xs.length ≤ 8) (hxs : ∀ j, j < xs.length → I (R + 1) (8 * u + j) = nI (xs.getD j 0)) (hlt : ∀ x ∈ xs, x < 2 ^ k) : ∀ d i g f, i + d = xs.length → (∀ t, t < 8 → g t = nI (f t)) → (∀ t, 8 ≤ t → g t = I a t) → Gb f k → r0 ≤ rk f → (∀ g2, (∀ t, t < 8 → g2 t = nI ((xs.drop i).foldl adS f t)) → (∀ t, 8 ≤ t → g2 t = I a t) → kk (upk I a g2) (nI (rk ((xs.drop i).foldl adS f) - r0))) → wp_X5_deliver_L51 Q R h (nI (k - r0)) (nI u) (nI xs.length) kk (d + 1) (upk I a g) (nI (rk f - r0)) (nI i) := by
  intro d
  induction d with
  | zero =>
    intro i g f hi hg hg8 hG hr hp
    have : i = xs.length := by omega
    subst this
    unfold wp_X5_deliver_L51
    have e : xs.drop xs.length = [] := by simp
    rw [e] at hp
    exact br_t (nI_le (Nat.le_refl _) (by omega)) (hp g hg hg8)
  | succ d ih =>
    intro i g f hi hg hg8 hG hr hp
    have hrk := rk_le hG
    have hil : i < xs.length := by omega
    have hx : xs.getD i 0 < 2 ^ k := hlt _ (by
      have : xs.getD i 0 = xs[i] := by simp [hil]
      rw [this]; exact List.getElem_mem hil)
    have h256 : 2 ^ k ≤ 2 ^ 8 := Nat.pow_le_pow_right (by omega) hk
    unfold wp_X5_deliver_L51
    refine br_f (nI_ge (by omega) (by omega)) ?_
    by_cases hfull : rk f = k
    · refine br_t (nI_le (by omega) (by omega)) ?_
      have e := fold_full hG hk hfull (xs.drop i) (fun x hx => hlt x (List.mem_of_mem_drop hx))
      rw [e] at hp
      exact hp g hg hg8
    · refine br_f (nI_ge (by omega) (by omega)) ⟨by rw [rd_at]; exact vp_in_nI (by omega) (by decide), ?_⟩
      rw [rd_at, nI_clamp (n := 8 * u + i) (by omega), hR.1, upk_n (Ne.symm hne), hxs i hil]
      refine sp_add (f := f) (k := k) ha hG hk (by omega) (by rw [upk_s]; exact hg) (fun g2 h1 h2 => ?_)
      rw [upk2, nI_1 i]
      have hrk2 := rk_adS hG hk hx
      have hd := drop_getD xs hil
      have hG2 := Gb_adS hG hk hx
      have hgo : wp_X5_deliver_L51 Q R h (nI (k - r0)) (nI u) (nI xs.length) kk (d + 1) (upk I a g2) (nI (rk (adS f (xs.getD i 0)) - r0)) (nI (i + 1)) := by
        refine ih (i + 1) g2 _ (by omega) h1 (fun t ht => by rw [h2 t ht, upk_s]; exact hg8 t ht) hG2 (by omega) (fun g3 h3 h4 => ?_)
        rw [hd, List.foldl_cons] at hp
        exact hp g3 h3 h4
      by_cases h0 : red f (xs.getD i 0) = 0
      · rw [decide_eq_false (by simpa using h0)]
        rw [if_pos h0] at hrk2
        refine br_t rfl ?_
        rw [show nI (rk f - r0) + (0 : Int32) = nI (rk (adS f (xs.getD i 0)) - r0) by rw [hrk2]; exact nI_add _ 0]
        exact hgo
      · rw [decide_eq_true (by simpa using h0)]
        rw [if_neg h0] at hrk2
        refine br_f (by decide) ?_
        rw [nI_1, show rk f - r0 + 1 = rk (adS f (xs.getD i 0)) - r0 by omega]
        exact hgo
/-- what some nodes send, one behind the other -/
def hearL (L : Nat → List Nat) (s : Nat) : Nat → List Nat
  | 0 => []
  | u + 1 => hearL L s u ++ if s.testBit u then L u else []
theorem hearL_lt {L : Nat → List Nat} {s k n : Nat} (h : ∀ u, u < n → ∀ x ∈ L u, x < 2 ^ k) : ∀ i, i ≤ n → ∀ x ∈ hearL L s i, x < 2 ^ k := by
  intro i
  induction i with
  | zero => intro _ x hx; simp [hearL] at hx
  | succ i ih =>
    intro hi x hx
    simp only [hearL, List.mem_append] at hx
    rcases hx with hx | hx
    · exact ih (by omega) x hx
    · by_cases hs : s.testBit i = true
      · rw [if_pos hs] at hx; exact h i (by omega) x hx
      · rw [if_neg hs] at hx; simp at hx
theorem lp_del {Q : KQ} {R B h a k r0 s n : Nat} {L : Nat → List Nat} {f0 : Nat → Nat} {post : Int32 → KI → Prop} (I : KI) (hR : RndQ Q R) (ha : rq Q h 0 = a) (h1 : a ≠ R + 1) (h2 : a ≠ R + 2) (h3 : a ≠ B) (hk : k ≤ 8) (hn : n ≤ 6) (hs : s < 2 ^ 32) (hB : I B 3 = nI n) (hS : SentIs I R L n) (hlt : ∀ u, u < n → ∀ x ∈ L u, x < 2 ^ k) (hp : ∀ g2, (∀ t, t < 8 → g2 t = nI ((hearL L s n).foldl adS f0 t)) → (∀ t, 8 ≤ t → g2 t = I a t) → post (nI (rk ((hearL L s n).foldl adS f0) - r0)) (upk I a g2)) : ∀ d u g f, u + d = n → f = (hearL L s u).foldl adS f0 → (∀ t, t < 8 → g t = nI (f t)) → (∀ t, 8 ≤ t → g t = I a t) → Gb f k → r0 ≤ rk f → wp_X5_deliver_L17 Q R B h (nI s) (nI (k - r0)) post (d + 1) (upk I a g) (nI (rk f - r0)) (nI u) := by
  intro d
  induction d with
  | zero =>
    intro u g f hu hf hg hg8 hG hr
    have : u = n := by omega
    subst this
    unfold wp_X5_deliver_L17
    rw [upk_n (Ne.symm h3), hB]
    refine br_t (nI_le (Nat.le_refl _) (by omega)) ?_
    have := hp g (by rw [← hf]; exact hg) hg8
    rw [← hf] at this
    exact this
  | succ d ih =>
    intro u g f hu hf hg hg8 hG hr
    have hun : u < n := by omega
    obtain ⟨s1, s2, s3⟩ := hS u hun
    unfold wp_X5_deliver_L17
    rw [upk_n (Ne.symm h3), hB]
    refine br_f (nI_ge (by omega) (by omega)) (sp_has hs (by omega) ⟨fun c => ?_, fun c => ?_⟩)
    · have hb := (bI_eq _).mp c
      have e : hearL L s (u + 1) = hearL L s u := by simp [hearL, hb]
      refine ⟨1, ?_⟩
      refine lp_del1 (xs := []) I hR ha h1 hk (by omega) (by simp) (fun j hj => absurd hj (Nat.not_lt_zero j)) (fun x hx => absurd hx List.not_mem_nil) 0 0 g f rfl hg hg8 hG hr (fun g2 q1 q2 => ?_)
      rw [nI_1 u]
      exact ih (u + 1) g2 f (by omega) (by rw [e]; exact hf) q1 q2 hG hr
    · have hb := (bI_ne _).mp c
      have e : hearL L s (u + 1) = hearL L s u ++ L u := by simp [hearL, hb]
      refine ⟨vp_in_nI (by omega) (by decide), (L u).length + 1, ?_⟩
      rw [hR.2.1, upk_n (Ne.symm h2), nI_clamp (n := u) (by omega), s1]
      refine lp_del1 (xs := L u) I hR ha h1 hk (by omega) s2 s3 (hlt u hun) (L u).length 0 g f (by omega) hg hg8 hG hr (fun g2 q1 q2 => ?_)
      rw [nI_1 u]
      rw [List.drop_zero] at q1 ⊢
      obtain ⟨G1, G2⟩ := Gb_fold hk (L u) f hG (hlt u hun)
      exact ih (u + 1) g2 _ (by omega) (by rw [e, List.foldl_append, ← hf]) q1 q2 G1 (by omega)
theorem sp_deliver {I : KI} {Q : KQ} {R B h a k s n : Nat} {L : Nat → List Nat} {f : Nat → Nat} {post : Int32 → KI → Prop} (hR : RndQ Q R) (ha : rq Q h 0 = a) (h1 : a ≠ R + 1) (h2 : a ≠ R + 2) (h3 : a ≠ B) (hk : k ≤ 8) (hn : n ≤ 6) (hs : s < 2 ^ 32) (hB : I B 3 = nI n) (hBk : I B 4 = nI k) (hS : SentIs I R L n) (hlt : ∀ u, u < n → ∀ x ∈ L u, x < 2 ^ k) (hG : Gb f k) (hA : ∀ t, t < 8 → I a t = nI (f t)) (hp : ∀ g2, (∀ t, t < 8 → g2 t = nI ((hearL L s n).foldl adS f t)) → (∀ t, 8 ≤ t → g2 t = I a t) → post (nI (rk ((hearL L s n).foldl adS f) - rk f)) (upk I a g2)) : wp_X5_deliver I Q R B h (nI s) post := by
  have hrk := rk_le hG
  unfold wp_X5_deliver
  refine sp_rank (f := f) (by rw [ha]; exact hA) (fun t ht => by have := Gb_lt hG ht; omega) ⟨n + 1, ?_⟩
  rw [hBk, pk_sub hrk]
  have := lp_del (L := L) (r0 := rk f) (f0 := f) (post := post) I hR ha h1 h2 h3 hk hn hs hB hS hlt hp n 0 (I a) f (by omega) rfl hA (fun _ _ => rfl) hG (Nat.le_refl _)
  rw [upk_id, Nat.sub_self] at this
  exact this
