/-! PURE, 27: gains -/
theorem SpE_sub {f : Nat → Nat} {xs ys : List Nat} (h : xs.Sublist ys) : ∀ x, SpE f xs x → SpE f ys x := by
  induction h with
  | slnil => intro x hx; exact hx
  | cons a _ ih =>
    intro x hx
    show _ ∨ _
    exact Or.inl (ih x hx)
  | cons_cons a _ ih =>
    intro x hx
    have hx : _ ∨ _ := hx
    show _ ∨ _
    rcases hx with hx | hx
    · exact Or.inl (ih x hx)
    · exact Or.inr (ih _ hx)
theorem cnt_le {P Q : Nat → Bool} (h : ∀ x, P x = true → Q x = true) : ∀ i o, cntT P i o ≤ cntT Q i o := by
  intro i
  induction i with
  | zero =>
    intro o
    simp only [cntT]
    by_cases hp : P o = true
    · rw [if_pos hp, if_pos (h o hp)]; exact Nat.le_refl _
    · rw [if_neg hp]; omega
  | succ i ih =>
    intro o
    simp only [cntT]
    have h1 := ih o
    have h2 := ih (o + 2 ^ i)
    omega
theorem rk_mono {f g : Nat → Nat} (hf : cntS f = 2 ^ rk f) (hg : cntS g = 2 ^ rk g) (h : ∀ x, Sp f x → Sp g x) : rk f ≤ rk g := by
  have e : cntS f ≤ cntS g := cnt_le (P := fun x => decide (red f x = 0)) (Q := fun x => decide (red g x = 0)) (fun x hx => decide_eq_true (show red g x = 0 from h x (show red f x = 0 from of_decide_eq_true hx))) 8 0
  rw [hf, hg] at e
  exact (Nat.pow_le_pow_iff_right (by omega)).mp e
theorem hear_sub (L : Nat → List Nat) {s t : Nat} (h : SubN s t) : ∀ i, (hearL L s i).Sublist (hearL L t i) := by
  intro i
  induction i with
  | zero => exact List.Sublist.refl _
  | succ i ih =>
    simp only [hearL]
    refine List.Sublist.append ih ?_
    by_cases hs : s.testBit i = true
    · rw [if_pos hs, if_pos (h i hs)]; exact List.Sublist.refl _
    · rw [if_neg hs]; exact List.nil_sublist _
theorem gr_mono {S : Snap} (hG : Gs S) (m : Nat) {v s t : Nat} (hv : v < 6) (h : SubN s t) : grT S (sndL S m) v s ≤ grT S (sndL S m) v t := by
  have hB := hG.2.2.2.2.2.2.2.1 v hv
  have hl : ∀ s, ∀ x ∈ hearL (sndL S m) s (S.1 0), x < 2 ^ S.1 1 := fun s => hearL_lt (L := sndL S m) (s := s) (k := S.1 1) (n := S.1 0) (fun u hu => (sndL_lt hG m (by have := hG.1; omega)).1) (S.1 0) (Nat.le_refl _)
  have := rk_mono (cnt_fold hG.2.1.2 _ _ hB.1 (hl s) hB.2) (cnt_fold hG.2.1.2 _ _ hB.1 (hl t) hB.2) (fun x hx => (SpE_fold hG.2.1.2 _ _ hB.1 (hl t) x).mpr (SpE_sub (hear_sub _ h _) x ((SpE_fold hG.2.1.2 _ _ hB.1 (hl s) x).mp hx)))
  unfold grT
  omega
theorem gr_le8 {S : Snap} (hG : Gs S) (m : Nat) {v : Nat} (hv : v < 6) (s : Nat) : grT S (sndL S m) v s ≤ 8 := by
  have hB := hG.2.2.2.2.2.2.2.1 v hv
  have hl := hearL_lt (L := sndL S m) (s := s) (k := S.1 1) (n := S.1 0) (fun u hu => (sndL_lt hG m (by have := hG.1; omega)).1) (S.1 0) (Nat.le_refl _)
  have := rk_le8 (Gb_fold hG.2.1.2 _ _ hB.1 hl).1
  unfold grT
  omega
/-- what a round would bring by a set of links -/
def gsT (S : Snap) (m p : Nat) : Nat → Nat
  | 0 => 0
  | v + 1 => gsT S m p v + grT S (sndL S m) v (nbT p v (S.1 0))
theorem gsT_le {S : Snap} (hG : Gs S) (m p : Nat) : ∀ v, v ≤ S.1 0 → gsT S m p v ≤ 8 * v := by
  intro v
  induction v with
  | zero => intro _; exact Nat.le_refl _
  | succ v ih =>
    intro hv
    have h1 := hG.1
    have := ih (by omega)
    have := gr_le8 hG m (v := v) (by omega) (nbT p v (S.1 0))
    simp only [gsT]
    omega
theorem gsT_mono {S : Snap} (hG : Gs S) (m : Nat) {p q : Nat} (h : SubN p q) : ∀ v, v ≤ S.1 0 → gsT S m p v ≤ gsT S m q v := by
  intro v
  induction v with
  | zero => intro _; exact Nat.le_refl _
  | succ v ih =>
    intro hv
    have h1 := hG.1
    have := ih (by omega)
    have := gr_mono hG m (v := v) (by omega) (s := nbT p v (S.1 0)) (t := nbT q v (S.1 0)) (fun j hj => by
      rw [nbT_bit] at hj ⊢
      have hj := of_decide_eq_true hj
      exact decide_eq_true ⟨hj.1, hj.2.1, h _ hj.2.2⟩)
    simp only [gsT]
    omega
def obT (S : Snap) (m : Nat) : Nat → Nat
  | 0 => 0
  | v + 1 => obT S m v + grT S (sndL S m) v (otT v (S.1 0))
/-! present, best -/
theorem SentIs.keep {I I' : KI} {R n : Nat} {L : Nat → List Nat} (h : SentIs I R L n) (h1 : I' (R + 1) = I (R + 1)) (h2 : I' (R + 2) = I (R + 2)) : SentIs I' R L n := fun u hu => by
  obtain ⟨s1, s2, s3⟩ := h u hu
  exact ⟨by rw [h2]; exact s1, s2, fun j hj => by rw [h1]; exact s3 j hj⟩
theorem SentM.keep {I I' : KI} {n : Nat} {L : Nat → List Nat} (h : SentM I L n) (h1 : I' 293 = I 293) (h2 : I' 294 = I 294) : SentM I' L n := fun u hu => by
  obtain ⟨s1, s2, s3⟩ := h u hu
  exact ⟨by rw [h1]; exact s1, s2, fun j hj => by rw [h2]; exact s3 j hj⟩
theorem sp_gr {I : KI} {Q : KQ} {m v s : Nat} {S : Snap} {post : Int32 → KI → Prop} (hR : RndQ Q 260) (hQ : NetQ Q 1) (hN : NetIs I 1 S) (hG : Gs S) (hS : SentIs I 260 (sndL S m) (S.1 0)) (hv : v < 6) (hs : s < 2 ^ 32) (hp : ∀ I', (∀ q, q ≠ 264 → I' q = I q) → post (nI (grT S (sndL S m) v s)) I') : wp_X5_growth I Q 260 1 (nI v) (nI s) post := sp_growth hR hQ hN hG (by omega) hS (fun u hu => (sndL_lt hG m (by have := hG.1; omega)).1) hv hs (fun g => hp _ (fun q hq => upk_n hq))
theorem lp_present {Q : KQ} {m : Nat} {S : Snap} {post : Int32 → KI → Prop} (I0 : KI) (hR : RndQ Q 260) (hQ : NetQ Q 1) (hN : NetIs I0 1 S) (hG : Gs S) (hr : S.1 4 < 2 ^ 31) (hS : SentIs I0 260 (sndL S m) (S.1 0)) (hp : ∀ I, (∀ q, q ≠ 264 → I q = I0 q) → post (nI (gsT S m (prT S) (S.1 0))) I) : ∀ d v I, v + d = S.1 0 → (∀ q, q ≠ 264 → I q = I0 q) → wp_X0_present_L5 Q 1 260 post (d + 1) I (nI (gsT S m (prT S) v)) (nI v) := by
  have h6 := hG.1
  intro d
  induction d with
  | zero =>
    intro v I hv w
    have : v = S.1 0 := by omega
    subst this
    unfold wp_X0_present_L5
    rw [w 1 (by decide), show I0 1 3 = nI (S.1 0) from hN.1 0 (by omega)]
    exact br_t (nI_le (Nat.le_refl _) (by omega)) (hp I w)
  | succ d ih =>
    intro v I hv w
    have n1 : NetIs I 1 S := hN.fr (fun k _ _ => w k (by omega))
    unfold wp_X0_present_L5
    rw [w 1 (by decide), show I0 1 3 = nI (S.1 0) from hN.1 0 (by omega), show I0 1 7 = nI (S.1 4) from hN.1 4 (by omega)]
    refine br_f (nI_ge (by omega) (by omega)) (sp_neighbours hQ n1 hG hr (by omega) (sp_gr hR hQ n1 hG (hS.keep (w _ (by omega)) (w _ (by omega))) (by omega) (nb32 _ _ hG.1.2) (fun I1 z => ?_)))
    rw [nI_add, nI_1]
    exact ih (v + 1) I1 (by omega) (fun q hq => by rw [z q hq]; exact w q hq)
theorem lp_best {Q : KQ} {m : Nat} {S : Snap} {post : Int32 → KI → Prop} (I0 : KI) (hR : RndQ Q 260) (hQ : NetQ Q 1) (hN : NetIs I0 1 S) (hG : Gs S) (hS : SentIs I0 260 (sndL S m) (S.1 0)) (hp : ∀ I, (∀ q, q ≠ 264 → I q = I0 q) → post (nI (obT S m (S.1 0))) I) : ∀ d v I, v + d = S.1 0 → (∀ q, q ≠ 264 → I q = I0 q) → wp_X0_best_L5 Q 1 260 post (d + 1) I (nI (obT S m v)) (nI v) := by
  have h6 := hG.1
  have h26 : 2 ^ S.1 0 ≤ 2 ^ 6 := Nat.pow_le_pow_right (by omega) h6.2
  have h20 := Nat.two_pow_pos (S.1 0)
  intro d
  induction d with
  | zero =>
    intro v I hv w
    have : v = S.1 0 := by omega
    subst this
    unfold wp_X0_best_L5
    rw [w 1 (by decide), show I0 1 3 = nI (S.1 0) from hN.1 0 (by omega)]
    exact br_t (nI_le (Nat.le_refl _) (by omega)) (hp I w)
  | succ d ih =>
    intro v I hv w
    have n1 : NetIs I 1 S := hN.fr (fun k _ _ => w k (by omega))
    have hot := otT_lt v (S.1 0)
    unfold wp_X0_best_L5
    rw [w 1 (by decide), show I0 1 3 = nI (S.1 0) from hN.1 0 (by omega), ni_shl1 _ (by omega), ni_shl1 _ (by omega), show nI (2 ^ S.1 0) - (1 : Int32) = nI (2 ^ S.1 0 - 1) from pk_sub (a := 2 ^ S.1 0) (b := 1) h20, ni_xor, ← otT_eq (S.1 0) h6.2 v (by omega)]
    refine br_f (nI_ge (by omega) (by omega)) (sp_gr hR hQ n1 hG (hS.keep (w _ (by omega)) (w _ (by omega))) (by omega) (by omega) (fun I1 z => ?_))
    rw [nI_add, nI_1]
    exact ih (v + 1) I1 (by omega) (fun q hq => by rw [z q hq]; exact w q hq)
theorem lp_mgain {Q : KQ} {m w : Nat} {S : Snap} {post : Int32 → KI → Prop} (I0 : KI) (hM : MdQ Q) (hN : RowIs (I0 288) S) (hG : Gs S) (hr : S.1 4 < 2 ^ 31) (hS : SentM I0 (sndM S m) (S.1 0)) (hw : w = 0 ∨ w = 2) (hp : ∀ I, (∀ q, q ≠ 292 → q ≠ 295 → I q = I0 q) → post (nI (if w = 2 then obT S m (S.1 0) else gsT S m (prT S) (S.1 0))) I) : ∀ d v I, v + d = S.1 0 → (∀ q, q ≠ 292 → q ≠ 295 → I q = I0 q) → wp_X11_gain_L32 Q 287 (nI w) post (d + 1) I (nI (if w = 2 then obT S m v else gsT S m (prT S) v)) (nI v) := by
  have h6 := hG.1
  have h26 : 2 ^ S.1 0 ≤ 2 ^ 6 := Nat.pow_le_pow_right (by omega) h6.2
  intro d
  induction d with
  | zero =>
    intro v I hv z
    have : v = S.1 0 := by omega
    subst this
    unfold wp_X11_gain_L32
    rw [hM.now, tc0, z 288 (by decide) (by decide), hN.n]
    exact br_t (nI_le (Nat.le_refl _) (by omega)) (hp I z)
  | succ d ih =>
    intro v I hv z
    have ih := ih (v + 1)
    have c3 : RowIs (I 288) S := by rw [z 288 (by decide) (by decide)]; exact hN
    have hSI : SentM I (sndM S m) (S.1 0) := hS.keep (z 293 (by decide) (by decide)) (z 294 (by decide) (by decide))
    have hpr := prT_lt hG
    have hot := otT_lt v (S.1 0)
    unfold wp_X11_gain_L32
    rw [hM.now, tc0, c3.n]
    refine br_f (nI_ge (by omega) (by omega)) (ms_present hM c3 hG hr ?_)
    rcases hw with rfl | rfl
    · refine ⟨fun _ => ms_linkedBy h6.2 (by omega) (by omega) (ms_growth hM c3 hG hSI (by omega) (nb32 _ _ h6.2) (fun I1 y => ?_)), fun c => absurd c (by decide)⟩
      simp only [show ¬ (0 : Nat) = 2 by decide, if_false] at ih ⊢
      rw [nI_add, nI_1]
      exact ih I1 (by omega) (fun q q1 q2 => by rw [y q q1 q2]; exact z q q1 q2)
    · refine ⟨fun c => absurd rfl c, fun _ => ms_linkedAny h6.2 (by omega) (ms_growth hM c3 hG hSI (by omega) (by omega) (fun I1 y => ?_))⟩
      simp only [if_true] at ih ⊢
      rw [nI_add, nI_1]
      exact ih I1 (by omega) (fun q q1 q2 => by rw [y q q1 q2]; exact z q q1 q2)
/-! worst: what each node would gain of each set -/
def GrI (I : KI) (S : Snap) (m c z v s : Nat) : Prop := ∀ v', v' < S.1 0 → ∀ s', z ≤ s' → s' < 2 ^ S.1 0 → (v' < v ∨ (v' = v ∧ s' < s)) → s'.testBit v' = false → I c (64 * v' + s') = nI (grT S (sndL S m) v' s')
theorem GrI.keep {I I' : KI} {S : Snap} {m c z v s : Nat} (h : GrI I S m c z v s) (he : I' c = I c) : GrI I' S m c z v s := fun v' h1 s' h2 h3 h4 h5 => by rw [he]; exact h v' h1 s' h2 h3 h4 h5
theorem GrI.skip {I : KI} {S : Snap} {m c z v s : Nat} (h : GrI I S m c z v s) (hb : s.testBit v = true) : GrI I S m c z v (s + 1) := fun v' h1 s' h2 h3 h4 h5 => by
  by_cases hc : v' = v ∧ s' = s
  · rw [hc.1, hc.2, hb] at h5; cases h5
  · exact h v' h1 s' h2 h3 (by omega) h5
theorem GrI.put {I : KI} {S : Snap} {m c z v s : Nat} {x : Int32} (h : GrI I S m c z v s) (hn : S.1 0 ≤ 6) (hs : s < 2 ^ S.1 0) (hx : s.testBit v = false → x = nI (grT S (sndL S m) v s)) : GrI (sti I c (64 * v + s) x) S m c z v (s + 1) := fun v' h1 s' h2 h3 h4 h5 => by
  have h26 : 2 ^ S.1 0 ≤ 2 ^ 6 := Nat.pow_le_pow_right (by omega) hn
  rw [sti_at]
  by_cases hc : v' = v ∧ s' = s
  · obtain ⟨rfl, rfl⟩ := hc
    rw [pk_us]
    exact hx h5
  · rw [pk_un (by omega)]
    exact h v' h1 s' h2 h3 (by omega) h5
theorem GrI.next {I : KI} {S : Snap} {m c z v : Nat} (h : GrI I S m c z v (2 ^ S.1 0)) (s : Nat) (hs : s ≤ z) : GrI I S m c z (v + 1) s := fun v' h1 s' h2 h3 h4 h5 => h v' h1 s' h2 h3 (by omega) h5
theorem lp_find13 {Q : KQ} {m v : Nat} {S : Snap} {kk : KI → Prop} (I0 : KI) (hR : RndQ Q 260) (hQ : NetQ Q 1) (h0 : rq Q 265 0 = 266) (hN : NetIs I0 1 S) (hG : Gs S) (hS : SentIs I0 260 (sndL S m) (S.1 0)) (hv : v < S.1 0) (hp : ∀ I, (∀ q, q ≠ 264 → q ≠ 266 → I q = I0 q) → GrI I S m 266 1 v (2 ^ S.1 0) → kk I) : ∀ d s I, s + d = 2 ^ S.1 0 → (∀ q, q ≠ 264 → q ≠ 266 → I q = I0 q) → GrI I S m 266 1 v s → wp_X0_findGrowths_L13 Q 265 1 260 (nI v) kk (d + 1) I (nI s) := by
  have h6 := hG.1
  have h26 : 2 ^ S.1 0 ≤ 2 ^ 6 := Nat.pow_le_pow_right (by omega) h6.2
  intro d
  induction d with
  | zero =>
    intro s I hs w g
    have : s = 2 ^ S.1 0 := by omega
    subst this
    unfold wp_X0_findGrowths_L13
    rw [w 1 (by decide) (by decide), show I0 1 3 = nI (S.1 0) from hN.1 0 (by omega), ni_shl1 _ (by omega)]
    exact br_t (nI_le (Nat.le_refl _) (by omega)) (hp I w g)
  | succ d ih =>
    intro s I hs w g
    have n1 : NetIs I 1 S := hN.fr (fun k _ _ => w k (by omega) (by omega))
    unfold wp_X0_findGrowths_L13
    rw [w 1 (by decide) (by decide), show I0 1 3 = nI (S.1 0) from hN.1 0 (by omega), ni_shl1 _ (by omega), h0, nI_1, show nI v * (64 : Int32) = nI (v * 64) from pk_mul v 64, nI_add, nI_clamp (n := v * 64 + s) (by omega), show v * 64 + s = 64 * v + s by omega]
    refine br_f (nI_ge (by omega) (by omega)) (sp_has (by omega) (by omega) ⟨fun c => ?_, fun c => ?_⟩)
    · exact ih (s + 1) I (by omega) w (g.skip ((bI_ne _).mp c))
    · refine sp_gr hR hQ n1 hG (hS.keep (w _ (by omega) (by omega)) (w _ (by omega) (by omega))) (by omega) (by omega) (fun I1 z => ⟨vp_in_nI (by omega) (by decide), ?_⟩)
      exact ih (s + 1) _ (by omega) (fun q q1 q2 => by rw [sti_ne _ _ _ q2, z q q1]; exact w q q1 q2) ((g.keep (z 266 (by decide))).put h6.2 (by omega) (fun _ => rfl))
theorem lp_find2 {Q : KQ} {m : Nat} {S : Snap} {post : KI → Prop} (I0 : KI) (hR : RndQ Q 260) (hQ : NetQ Q 1) (h0 : rq Q 265 0 = 266) (hN : NetIs I0 1 S) (hG : Gs S) (hS : SentIs I0 260 (sndL S m) (S.1 0)) (hp : ∀ I, (∀ q, q ≠ 264 → q ≠ 266 → I q = I0 q) → GrI I S m 266 1 (S.1 0) 1 → post I) : ∀ d v I, v + d = S.1 0 → (∀ q, q ≠ 264 → q ≠ 266 → I q = I0 q) → GrI I S m 266 1 v 1 → wp_X0_findGrowths_L2 Q 265 1 260 post (d + 1) I (nI v) := by
  have h6 := hG.1
  have h26 : 2 ^ S.1 0 ≤ 2 ^ 6 := Nat.pow_le_pow_right (by omega) h6.2
  have h20 := Nat.two_pow_pos (S.1 0)
  intro d
  induction d with
  | zero =>
    intro v I hv w g
    have : v = S.1 0 := by omega
    subst this
    unfold wp_X0_findGrowths_L2
    rw [w 1 (by decide) (by decide), show I0 1 3 = nI (S.1 0) from hN.1 0 (by omega)]
    exact br_t (nI_le (Nat.le_refl _) (by omega)) (hp I w g)
  | succ d ih =>
    intro v I hv w g
    unfold wp_X0_findGrowths_L2
    rw [w 1 (by decide) (by decide), show I0 1 3 = nI (S.1 0) from hN.1 0 (by omega)]
    obtain ⟨k, hk⟩ : ∃ k, 1 + k = 2 ^ S.1 0 := ⟨2 ^ S.1 0 - 1, by omega⟩
    refine br_f (nI_ge (by omega) (by omega)) ⟨k + 1, ?_⟩
    refine lp_find13 I hR hQ h0 (hN.fr (fun k _ _ => w k (by omega) (by omega))) hG (hS.keep (w _ (by omega) (by omega)) (w _ (by omega) (by omega))) (by omega) (fun I1 y1 y2 => ?_) k 1 I hk (fun _ _ _ => rfl) g
    rw [nI_1]
    exact ih (v + 1) I1 (by omega) (fun q q1 q2 => by rw [y1 q q1 q2]; exact w q q1 q2) (y2.next 1 (Nat.le_refl _))
/-! trees as the class grows them -/
def TrI (I : KI) (D : Nat → Nat) (p n : Nat) : Prop := (∀ v, v < n → I 267 v = nI (D v)) ∧ ∀ v, v < n → I 268 v = nI (nbT p v n)
theorem sp_connect {I : KI} {Q : KQ} {D : Nat → Nat} {p n a b : Nat} {post : KI → Prop} (h1 : rq Q 265 1 = 267) (h2 : rq Q 265 2 = 268) (hn : n ≤ 6) (hT : TrI I D p n) (ha : a < n) (hb : b < n) (hab : a ≠ b) (hDa : 1 ≤ D a) (hDb : 1 ≤ D b) (hp : ∀ I', (∀ q, q ≠ 267 → q ≠ 268 → I' q = I q) → TrI I' (cnD D a b) (p ||| 2 ^ pi2 a b) n → post I') : wp_X0_connect I Q 265 (nI a) (nI b) post := by
  obtain ⟨t1, t2⟩ := hT
  have va : vp_in (nI a) 6 := vp_in_nI (by omega) (by decide)
  have vb : vp_in (nI b) 6 := vp_in_nI (by omega) (by decide)
  unfold wp_X0_connect
  rw [h1, h2, nI_clamp (n := a) (by omega), nI_clamp (n := b) (by omega), ni_shl1 _ (by omega), ni_shl1 _ (by omega)]
  refine ⟨fun c => absurd c (nI_pos (by omega)), fun _ => ⟨fun c => absurd c (nI_pos (by omega)), fun _ => ⟨va, va, vb, vb, va, va, vb, vb, ?_⟩⟩⟩
  refine hp _ (fun q q1 q2 => by rw [sti_ne _ _ _ q1, sti_ne _ _ _ q1, sti_ne _ _ _ q2, sti_ne _ _ _ q2]) ⟨fun v hv => ?_, fun v hv => ?_⟩
  · have e2 : ∀ (x y : Int32) u, sti (sti I 268 a x) 268 b y 267 u = I 267 u := fun x y u => by rw [sti_ne _ _ _ (by decide), sti_ne _ _ _ (by decide)]
    have e1 : ∀ (x y : Int32) u, sti (sti (sti I 268 a x) 268 b y) 267 a (sti (sti I 268 a x) 268 b y 267 a - 1) 267 u = nI (upk D a (D a - 1) u) ∨ n ≤ u := fun x y u => by
      by_cases hu : u < n
      · left
        rw [sti_at, e2, t1 a ha, show nI (D a) - (1 : Int32) = nI (D a - 1) from pk_sub (a := D a) (b := 1) hDa]
        by_cases hua : u = a
        · subst hua; rw [pk_us, upk_s]
        · rw [pk_un hua, upk_n hua, e2]; exact t1 u hu
      · right; omega
    rw [sti_at]
    unfold cnD
    by_cases hvb : v = b
    · subst hvb
      rw [pk_us, upk_s]
      have hDb' : 1 ≤ upk D a (D a - 1) v := by rw [upk_n (fun z => hab z.symm)]; exact hDb
      rcases e1 (I 268 a ||| nI (2 ^ v)) (sti I 268 a (I 268 a ||| nI (2 ^ v)) 268 v ||| nI (2 ^ a)) v with h | h
      · rw [h]
        exact pk_sub (a := upk D a (D a - 1) v) (b := 1) hDb'
      · omega
    · rw [pk_un hvb, upk_n hvb]
      rcases e1 (I 268 a ||| nI (2 ^ b)) (sti I 268 a (I 268 a ||| nI (2 ^ b)) 268 b ||| nI (2 ^ a)) v with h | h
      · exact h
      · omega
  · rw [sti_ne _ _ _ (by decide), sti_ne _ _ _ (by decide), nbT_link hn ha hb hab (by omega), sti_at, t2 a ha, ni_or]
    by_cases hvb : v = b
    · subst hvb
      rw [pk_us, sti_at, pk_un (fun z => hab z.symm), t2 v hv, ni_or, if_neg (fun z => hab z.symm), if_pos rfl]
    · rw [pk_un hvb, sti_at]
      by_cases hva : v = a
      · subst hva
        rw [pk_us, if_pos rfl]
      · rw [pk_un hva, if_neg hva, if_neg hvb, Nat.or_zero]
        exact t2 v hv
theorem lp_leaf {I : KI} {Q : KQ} {D : Nat → Nat} {p n : Nat} {post : Int32 → Prop} (h1 : rq Q 265 1 = 267) (hn : n ≤ 6) (hT : TrI I D p n) (hD : ∀ v, D v < 100) : ∀ d v, v + d = n → fstT (fun v => decide (D v = 1)) d v < n → post (nI (fstT (fun v => decide (D v = 1)) d v)) → wp_X0_leafBehind_L4 I Q 265 (nI n) post (d + 1) (nI v) := by
  intro d
  induction d with
  | zero =>
    intro v hv hl hp
    simp only [fstT] at hl
    omega
  | succ d ih =>
    intro v hv hl hp
    have hDv := hD v
    unfold wp_X0_leafBehind_L4
    rw [h1, nI_clamp (n := v) (by omega), hT.1 v (by omega), nI_1, show (1 : Int32) = nI 1 from rfl, nI_eq (by omega) (by decide)]
    refine br_f (nI_ge (by omega) (by omega)) ⟨vp_in_nI (by omega) (by decide), fun c => ?_, fun c => ?_⟩
    · rw [fstT_f (lk := fun v => decide (D v = 1)) (d := d) (i := v) (decide_eq_false c)] at hl hp
      exact ih (v + 1) (by omega) hl hp
    · rw [fstT_t (lk := fun v => decide (D v = 1)) (d := d) (i := v) (decide_eq_true c)] at hp
      exact hp
theorem sp_leaf {I : KI} {Q : KQ} {D : Nat → Nat} {p n i : Nat} {x : Int32} {post : Int32 → Prop} (h1 : rq Q 265 1 = 267) (hn : n ≤ 6) (hT : TrI I D p n) (hD : ∀ v, D v < 100) (hx : x + 1 = nI i) (hi : i ≤ n) (hl : lfT D n i < n) (hp : post (nI (lfT D n i))) : wp_X0_leafBehind I Q 265 x (nI n) post := by
  unfold wp_X0_leafBehind
  rw [hx]
  exact ⟨n - i + 1, lp_leaf h1 hn hT hD (n - i) i (by omega) hl hp⟩
theorem fst_is (lk : Nat → Bool) : ∀ d i, fstT lk d i < i + d → lk (fstT lk d i) = true := by
  intro d
  induction d with
  | zero => intro i h; simp only [fstT] at h; omega
  | succ d ih =>
    intro i h
    cases hl : lk i with
    | true => rw [fstT_t hl]; exact hl
    | false =>
      rw [fstT_f hl] at h ⊢
      exact ih (i + 1) (by omega)
theorem lf_deg {D : Nat → Nat} {n i : Nat} (hi : i ≤ n) (h : lfT D n i < n) : D (lfT D n i) = 1 := of_decide_eq_true (fst_is (fun v => decide (D v = 1)) (n - i) i (by show lfT D n i < _; omega))
theorem fst_ge (lk : Nat → Bool) : ∀ d i, i ≤ fstT lk d i := by
  intro d
  induction d with
  | zero => intro i; exact Nat.le_refl _
  | succ d ih =>
    intro i
    simp only [fstT]
    have := ih (i + 1)
    split <;> omega
theorem lp_count2 {Q : KQ} {n : Nat} {kk : KI → Prop} (I0 : KI) (h1 : rq Q 265 1 = 267) (h2 : rq Q 265 2 = 268) (hn : n ≤ 6) (hp : ∀ I, (∀ q, q ≠ 267 → q ≠ 268 → I q = I0 q) → TrI I (fun _ => 1) 0 n → kk I) : ∀ d v I, v + d = n → (∀ q, q ≠ 267 → q ≠ 268 → I q = I0 q) → (∀ u, u < v → I 267 u = 1 ∧ I 268 u = 0) → wp_X0_countDegrees_L2 Q 265 (nI n) kk (d + 1) I (nI v) := by
  intro d
  induction d with
  | zero =>
    intro v I hv w1 w2
    have : v = n := by omega
    subst this
    unfold wp_X0_countDegrees_L2
    refine br_t (nI_le (Nat.le_refl _) (by omega)) (hp I w1 ⟨fun u hu => (w2 u hu).1, fun u hu => ?_⟩)
    rw [nbT_0]
    exact (w2 u hu).2
  | succ d ih =>
    intro v I hv w1 w2
    unfold wp_X0_countDegrees_L2
    rw [h1, h2, nI_clamp (n := v) (by omega), nI_1]
    refine br_f (nI_ge (by omega) (by omega)) ⟨vp_in_nI (by omega) (by decide), vp_in_nI (by omega) (by decide), ih (v + 1) _ (by omega) (fun q q1 q2 => by rw [sti_ne _ _ _ q2, sti_ne _ _ _ q1]; exact w1 q q1 q2) (fun u hu => ?_)⟩
    rw [sti_ne _ _ _ (by decide), sti_at, sti_at, sti_ne _ _ _ (by decide)]
    by_cases huv : u = v
    · subst huv; rw [pk_us, pk_us]; exact ⟨rfl, rfl⟩
    · rw [pk_un huv, pk_un huv]; exact w2 u (by omega)
theorem lp_count32 {Q : KQ} {n : Nat} {post : KI → Prop} (I0 : KI) (h1 : rq Q 265 1 = 267) (h2 : 2 ≤ n) (hn : n ≤ 6) : ∀ d i l I D, i + d = n → l < 2 ^ 31 → (∀ q, q ≠ 267 → q ≠ 268 → I q = I0 q) → TrI I D 0 n → (∀ v, D v + d < 90) → (∀ I, (∀ q, q ≠ 267 → q ≠ 268 → I q = I0 q) → TrI I (dgT n d l D) 0 n → (∀ v, dgT n d l D v < 90) → post I) → wp_X0_countDegrees_L32 Q 265 (nI n) post (d + 1) I (nI l) (nI i) := by
  intro d
  induction d with
  | zero =>
    intro i l I D hi hl w1 w2 w3 hp
    have : i = n := by omega
    subst this
    unfold wp_X0_countDegrees_L32
    exact br_t (nI_le (Nat.le_refl _) (by omega)) (hp I w1 w2 w3)
  | succ d ih =>
    intro i l I D hi hl w1 w2 w3 hp
    have hm : l % n < n := Nat.mod_lt _ (by omega)
    have hd : l / n < 2 ^ 31 := Nat.lt_of_le_of_lt (Nat.div_le_self _ _) hl
    unfold wp_X0_countDegrees_L32
    refine br_f (nI_ge (by omega) (by omega)) (sp_leftOver hl (by omega) (by omega) ⟨vp_in_nI (by omega) (by decide), vp_in_nI (by omega) (by decide), br_t (nI_le (a := 1) (by omega) (by omega)) ⟨nI_ne0 (by omega) (by omega), ?_⟩⟩)
    rw [h1, nI_clamp (by omega), w2.1 _ hm, nI_1, nI_1, pk_div hl (by omega) (by omega)]
    refine ih (i + 1) (l / n) _ (upk D (l % n) (D (l % n) + 1)) (by omega) hd (fun q q1 q2 => by rw [sti_ne _ _ _ q1]; exact w1 q q1 q2) ⟨fun v hv => ?_, fun v hv => by rw [sti_ne _ _ _ (by decide)]; exact w2.2 v hv⟩ (fun v => ?_) hp
    · rw [sti_at]
      by_cases hvl : v = l % n
      · subst hvl; rw [pk_us, upk_s]
      · rw [pk_un hvl, upk_n hvl]; exact w2.1 v hv
    · have := w3 v
      by_cases hvl : v = l % n
      · subst hvl; rw [upk_s]; omega
      · rw [upk_n hvl]; omega
theorem cnD_lt {D : Nat → Nat} {a b m : Nat} (h : ∀ v, D v < m) : ∀ v, cnD D a b v < m := by
  intro v
  unfold cnD
  have h1 : ∀ u, upk D a (D a - 1) u < m := fun u => by
    by_cases hu : u = a
    · subst hu; rw [upk_s]; have := h u; omega
    · rw [upk_n hu]; exact h u
  by_cases hv : v = b
  · subst hv; rw [upk_s]; have := h1 v; omega
  · rw [upk_n hv]; exact h1 v
theorem lp_grow {Q : KQ} {n : Nat} {post : KI → Prop} (I0 : KI) (h1 : rq Q 265 1 = 267) (h2 : rq Q 265 2 = 268) (hn2 : 2 ≤ n) (hn : n ≤ 6) : ∀ d i l I D p, i + d = n → l < 2 ^ 31 → (∀ q, q ≠ 267 → q ≠ 268 → I q = I0 q) → TrI I D p n → (∀ v, D v < 90) → twB n d D l = true → (∀ I, (∀ q, q ≠ 267 → q ≠ 268 → I q = I0 q) → TrI I (twT n d D p l).1 (twT n d D p l).2 n → (∀ v, (twT n d D p l).1 v < 90) → lfT (twT n d D p l).1 n 0 < n → lfT (twT n d D p l).1 n (lfT (twT n d D p l).1 n 0 + 1) < n → post I) → wp_X0_grow_L11 Q 265 (nI n) post (d + 1) I (nI l) (nI i) := by
  intro d
  induction d with
  | zero =>
    intro i l I D p hi hl w1 w2 w3 hB hp
    have : i = n := by omega
    subst this
    simp only [twB, Bool.and_eq_true] at hB
    unfold wp_X0_grow_L11
    exact br_t (nI_le (Nat.le_refl _) (by omega)) (hp I w1 w2 w3 (of_decide_eq_true hB.1) (of_decide_eq_true hB.2))
  | succ d ih =>
    intro i l I D p hi hl w1 w2 w3 hB hp
    simp only [twB, Bool.and_eq_true] at hB
    obtain ⟨b1, b2, b3, b4⟩ := hB
    have b1 := of_decide_eq_true b1
    have b2 := of_decide_eq_true b2
    have b3 := of_decide_eq_true b3
    have hm : l % n < n := Nat.mod_lt _ (by omega)
    have hd : l / n < 2 ^ 31 := Nat.lt_of_le_of_lt (Nat.div_le_self _ _) hl
    unfold wp_X0_grow_L11
    refine br_f (nI_ge (by omega) (by omega)) (sp_leaf (i := 0) h1 hn w2 (fun v => by have := w3 v; omega) (by decide) (by omega) b1 (sp_leftOver hl (by omega) (by omega) (br_t (nI_le (a := 1) (by omega) (by omega)) ⟨nI_ne0 (by omega) (by omega), ?_⟩)))
    refine sp_connect h1 h2 hn w2 b1 hm b2 (by rw [lf_deg (by omega) b1]; exact Nat.le_refl _) b3 (fun I1 z1 z2 => ?_)
    rw [pk_div hl (by omega) (by omega), nI_1]
    exact ih (i + 1) (l / n) I1 _ _ (by omega) hd (fun q q1 q2 => by rw [z1 q q1 q2]; exact w1 q q1 q2) z2 (cnD_lt w3) b4 hp
theorem sp_grow {I : KI} {Q : KQ} {n c : Nat} {post : KI → Prop} (h1 : rq Q 265 1 = 267) (h2 : rq Q 265 2 = 268) (hn2 : 2 ≤ n) (hn : n ≤ 6) (hc : c < n ^ (n - 2)) (hc2 : c < 2 ^ 31) (hp : ∀ I', (∀ q, q ≠ 267 → q ≠ 268 → I' q = I q) → (∀ v, v < n → I' 268 v = nI (nbT (tlT n c) v n)) → post I') : wp_X0_grow I Q 265 (nI c) (nI n) post := by
  have hB := tl_all hn2 hn hc
  unfold tlB at hB
  rw [Bool.and_eq_true] at hB
  obtain ⟨d, hd⟩ : ∃ d, 2 + d = n := ⟨n - 2, by omega⟩
  have hdn : n - 2 = d := by omega
  have hB1 := hB.1
  unfold wp_X0_grow wp_X0_countDegrees
  refine ⟨n + 1, lp_count2 I h1 h2 hn (fun I1 w1 w2 => ⟨d + 1, ?_⟩) n 0 I (by omega) (fun _ _ _ => rfl) (fun u hu => absurd hu (Nat.not_lt_zero u))⟩
  refine lp_count32 I h1 hn2 hn d 2 c I1 _ hd hc2 w1 w2 (fun v => by show 1 + d < 90; omega) (fun I2 y1 y2 y3 => ⟨d + 1, ?_⟩)
  rw [hdn] at hB1
  refine lp_grow I h1 h2 hn2 hn d 2 c I2 _ _ hd hc2 y1 y2 y3 hB1 (fun I3 z1 z2 z3 z4 z5 => ?_)
  refine sp_leaf (i := 0) h1 hn z2 (fun v => by have := z3 v; omega) (by decide) (by omega) z4 (sp_leaf h1 hn z2 (fun v => by have := z3 v; omega) (nI_1 _) (by omega) z5 ?_)
  have hge := fst_ge (fun v => decide ((twT n d (dgT n d c (fun _ => 1)) 0 c).1 v = 1)) (n - (lfT (twT n d (dgT n d c (fun _ => 1)) 0 c).1 n 0 + 1)) (lfT (twT n d (dgT n d c (fun _ => 1)) 0 c).1 n 0 + 1)
  have hge : lfT (twT n d (dgT n d c (fun _ => 1)) 0 c).1 n 0 + 1 ≤ lfT (twT n d (dgT n d c (fun _ => 1)) 0 c).1 n (lfT (twT n d (dgT n d c (fun _ => 1)) 0 c).1 n 0 + 1) := hge
  refine sp_connect h1 h2 hn z2 z4 z5 (by omega) (by rw [lf_deg (by omega) z4]; exact Nat.le_refl _) (by rw [lf_deg (by omega) z5]; exact Nat.le_refl _) (fun I4 x1 x2 => hp I4 (fun q q1 q2 => by rw [x1 q q1 q2, z1 q q1 q2]) (fun v hv => ?_))
  have e : tlT n c = (twT n d (dgT n d c (fun _ => 1)) 0 c).2 ||| 2 ^ pi2 (lfT (twT n d (dgT n d c (fun _ => 1)) 0 c).1 n 0) (lfT (twT n d (dgT n d c (fun _ => 1)) 0 c).1 n (lfT (twT n d (dgT n d c (fun _ => 1)) 0 c).1 n 0 + 1)) := by
    unfold tlT tlF tlD
    rw [hdn]
  rw [e]
  exact x2.2 v hv
