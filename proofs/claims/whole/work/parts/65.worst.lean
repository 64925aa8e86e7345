/-! PURE, 28: the worst links that join all -/
theorem lp_byTree {I : KI} {Q : KQ} {m t : Nat} {S : Snap} {post : Int32 → Prop} (h0 : rq Q 265 0 = 266) (h2 : rq Q 265 2 = 268) (hG : Gs S) (hg : GrI I S m 266 1 (S.1 0) 1) (ht : ∀ v, v < S.1 0 → I 268 v = nI (nbT t v (S.1 0))) (hz : ∀ v, v < S.1 0 → nbT t v (S.1 0) ≠ 0) (hp : post (nI (gsT S m t (S.1 0)))) : ∀ d v, v + d = S.1 0 → wp_X0_byTree_L4 I Q 265 (nI (S.1 0)) post (d + 1) (nI (gsT S m t v)) (nI v) := by
  have h6 := hG.1
  have h26 : 2 ^ S.1 0 ≤ 2 ^ 6 := Nat.pow_le_pow_right (by omega) h6.2
  intro d
  induction d with
  | zero =>
    intro v hv
    have : v = S.1 0 := by omega
    subst this
    unfold wp_X0_byTree_L4
    exact br_t (nI_le (Nat.le_refl _) (by omega)) hp
  | succ d ih =>
    intro v hv
    have hn := nbT_lt t v (S.1 0)
    have hne := hz v (by omega)
    have hb : (nbT t v (S.1 0)).testBit v = false := by
      rw [nbT_bit]
      exact decide_eq_false (fun z => z.2.1 rfl)
    have hgv := hg v (by omega) (nbT t v (S.1 0)) (by omega) hn (Or.inl (by omega)) hb
    unfold wp_X0_byTree_L4
    rw [h0, h2, nI_clamp (n := v) (by omega), ht v (by omega), show nI v * (64 : Int32) = nI (v * 64) from pk_mul v 64, nI_add, nI_clamp (n := v * 64 + nbT t v (S.1 0)) (by omega), show v * 64 + nbT t v (S.1 0) = 64 * v + nbT t v (S.1 0) by omega, hgv, nI_add, nI_1]
    exact br_f (nI_ge (by omega) (by omega)) ⟨vp_in_nI (by omega) (by decide), vp_in_nI (by omega) (by decide), ih (v + 1) (by omega)⟩
def mnT (f : Nat → Nat) : Nat → Nat
  | 0 => 48
  | c + 1 => if f c < mnT f c then f c else mnT f c
theorem mnT_ok (f : Nat → Nat) : ∀ N, mnT f N ≤ 48 ∧ (∀ c, c < N → mnT f N ≤ f c) ∧ (mnT f N = 48 ∨ ∃ c, c < N ∧ f c = mnT f N) := by
  intro N
  induction N with
  | zero => exact ⟨Nat.le_refl _, fun c hc => absurd hc (Nat.not_lt_zero c), Or.inl rfl⟩
  | succ N ih =>
    obtain ⟨h1, h2, h3⟩ := ih
    simp only [mnT]
    by_cases hl : f N < mnT f N
    · rw [if_pos hl]
      refine ⟨by omega, fun c hc => ?_, Or.inr ⟨N, by omega, rfl⟩⟩
      by_cases hcn : c = N
      · subst hcn; exact Nat.le_refl _
      · have := h2 c (by omega); omega
    · rw [if_neg hl]
      refine ⟨h1, fun c hc => ?_, ?_⟩
      · by_cases hcn : c = N
        · subst hcn; omega
        · exact h2 c (by omega)
      · rcases h3 with h3 | ⟨c, q1, q2⟩
        · exact Or.inl h3
        · exact Or.inr ⟨c, by omega, q2⟩
def ftT (S : Snap) (m : Nat) : Nat → Nat := fun c => gsT S m (tlT (S.1 0) c) (S.1 0)
def fgT (S : Snap) (m : Nat) : Nat → Nat := fun l => gsT S m l (S.1 0)
theorem pow_codes : ∀ n, n ≤ 6 → n ^ (n - 2) < 10000 := by decide +kernel
theorem lp_worst25 {Q : KQ} {m : Nat} {S : Snap} {post : Int32 → KI → Prop} (I0 : KI) (h0 : rq Q 265 0 = 266) (h1 : rq Q 265 1 = 267) (h2 : rq Q 265 2 = 268) (hG : Gs S) (hg : GrI I0 S m 266 1 (S.1 0) 1) (hp : ∀ I, (∀ q, q ≠ 267 → q ≠ 268 → I q = I0 q) → post (nI (mnT (ftT S m) (S.1 0 ^ (S.1 0 - 2)))) I) : ∀ d c I, c + d = S.1 0 ^ (S.1 0 - 2) → (∀ q, q ≠ 267 → q ≠ 268 → I q = I0 q) → wp_X0_worst_L25 Q 265 (nI (S.1 0)) (nI (S.1 0 ^ (S.1 0 - 2))) post (d + 1) I (nI (mnT (ftT S m) c)) (nI c) := by
  have h6 := hG.1
  have hN := pow_codes (S.1 0) h6.2
  intro d
  induction d with
  | zero =>
    intro c I hc w
    have : c = S.1 0 ^ (S.1 0 - 2) := by omega
    subst this
    unfold wp_X0_worst_L25
    exact br_t (nI_le (Nat.le_refl _) (by omega)) (hp I w)
  | succ d ih =>
    intro c I hc w
    have hB := tl_all h6.1 h6.2 (show c < S.1 0 ^ (S.1 0 - 2) by omega)
    unfold tlB at hB
    simp only [Bool.and_eq_true] at hB
    obtain ⟨-, -, hz, -⟩ := hB
    unfold wp_X0_worst_L25
    refine br_f (nI_ge (by omega) (by omega)) (sp_grow h1 h2 h6.1 h6.2 (by omega) (by omega) (fun I1 y1 y2 => ⟨S.1 0 + 1, ?_⟩))
    refine lp_byTree h0 h2 hG (hg.keep (by rw [y1 266 (by decide) (by decide), w 266 (by decide) (by decide)])) y2 (fun v hv => of_decide_eq_true (allQ_t _ _ hz v (Nat.zero_le v) (by omega))) ?_ (S.1 0) 0 (by omega)
    have e1 := gsT_le hG m (tlT (S.1 0) c) (S.1 0) (Nat.le_refl _)
    have e2 := (mnT_ok (ftT S m) c).1
    have e : (if nI (gsT S m (tlT (S.1 0) c) (S.1 0)) < nI (mnT (ftT S m) c) then nI (gsT S m (tlT (S.1 0) c) (S.1 0)) else nI (mnT (ftT S m) c)) = nI (mnT (ftT S m) (c + 1)) := by
      have hft : gsT S m (tlT (S.1 0) c) (S.1 0) = ftT S m c := rfl
      rw [hft] at e1 ⊢
      simp only [mnT]
      by_cases hl : ftT S m c < mnT (ftT S m) c
      · rw [if_pos hl, if_pos (nI_lt hl (by omega))]
      · rw [if_neg hl, if_neg (fun z => hl ((nI_ltI (by omega) (by omega)).mp z))]
    rw [e, nI_1]
    exact ih (c + 1) I1 (by omega) (fun q q1 q2 => by rw [y1 q q1 q2]; exact w q q1 q2)
theorem lp_worst4 {n : Nat} {kk : Int32 → Prop} (h2 : 2 ≤ n) (hn : n ≤ 6) (hp : kk (nI (n ^ (n - 2)))) : ∀ d i, 2 + i + d = n → wp_X0_worst_L4 (nI n) kk (d + 1) (nI (n ^ i)) (nI (2 + i)) := by
  intro d
  induction d with
  | zero =>
    intro i hi
    have e : i = n - 2 := by omega
    unfold wp_X0_worst_L4
    rw [e]
    exact br_t (nI_le (by omega) (by omega)) hp
  | succ d ih =>
    intro i hi
    unfold wp_X0_worst_L4
    rw [show nI (n ^ i) * nI n = nI (n ^ i * n) from pk_mul _ _, nI_1, ← Nat.pow_succ]
    exact br_f (nI_ge (by omega) (by omega)) (ih (i + 1) (by omega))
theorem sp_worst {I : KI} {Q : KQ} {m : Nat} {S : Snap} {post : Int32 → KI → Prop} (h0 : rq Q 265 0 = 266) (h1 : rq Q 265 1 = 267) (h2 : rq Q 265 2 = 268) (hG : Gs S) (hg : GrI I S m 266 1 (S.1 0) 1) (hp : ∀ I', (∀ q, q ≠ 267 → q ≠ 268 → I' q = I q) → post (nI (mnT (ftT S m) (S.1 0 ^ (S.1 0 - 2)))) I') : wp_X0_worst I Q 265 (nI (S.1 0)) post := by
  have h6 := hG.1
  unfold wp_X0_worst
  exact ⟨S.1 0 - 2 + 1, lp_worst4 h6.1 h6.2 ⟨S.1 0 ^ (S.1 0 - 2) + 1, lp_worst25 I h0 h1 h2 hG hg hp _ 0 I (by omega) (fun _ _ _ => rfl)⟩ (S.1 0 - 2) 0 (by omega)⟩
/-! the reference -/
theorem lp_mw16 {Q : KQ} {m v : Nat} {S : Snap} {kk : KI → Prop} (I0 : KI) (hM : MdQ Q) (hN : RowIs (I0 288) S) (hG : Gs S) (hS : SentM I0 (sndM S m) (S.1 0)) (hv : v < S.1 0) (hp : ∀ I, (∀ q, q ≠ 292 → q ≠ 295 → q ≠ 296 → I q = I0 q) → GrI I S m 296 0 v (2 ^ S.1 0) → kk I) : ∀ d s I, s + d = 2 ^ S.1 0 → (∀ q, q ≠ 292 → q ≠ 295 → q ≠ 296 → I q = I0 q) → GrI I S m 296 0 v s → wp_X11_worst_L16 Q 287 (nI (S.1 0)) (nI v) kk (d + 1) I (nI s) := by
  have h6 := hG.1
  have h26 : 2 ^ S.1 0 ≤ 2 ^ 6 := Nat.pow_le_pow_right (by omega) h6.2
  intro d
  induction d with
  | zero =>
    intro s I hs w g
    have : s = 2 ^ S.1 0 := by omega
    subst this
    unfold wp_X11_worst_L16
    rw [ni_shl1 _ (by omega)]
    exact br_t (nI_le (Nat.le_refl _) (by omega)) (hp I w g)
  | succ d ih =>
    intro s I hs w g
    have c3 : RowIs (I 288) S := by rw [w 288 (by decide) (by decide) (by decide)]; exact hN
    unfold wp_X11_worst_L16
    rw [ni_shl1 _ (by omega), hM.grown, nI_1, show (64 : Int32) * nI v = nI (64 * v) from pk_mul 64 v, nI_add, nI_clamp (n := 64 * v + s) (by omega)]
    refine br_f (nI_ge (by omega) (by omega)) (ms_has (by omega) (by omega) ⟨fun c => ?_, fun c => ⟨vp_in_nI (by omega) (by decide), ?_⟩⟩)
    · refine ms_growth hM c3 hG (hS.keep (w 293 (by decide) (by decide) (by decide)) (w 294 (by decide) (by decide) (by decide))) (by omega) (by omega) (fun I1 z => ⟨vp_in_nI (by omega) (by decide), ?_⟩)
      exact ih (s + 1) _ (by omega) (fun q q1 q2 q3 => by rw [sti_ne _ _ _ q3, z q q1 q2]; exact w q q1 q2 q3) ((g.keep (z 296 (by decide) (by decide))).put h6.2 (by omega) (fun _ => rfl))
    · exact ih (s + 1) _ (by omega) (fun q q1 q2 q3 => by rw [sti_ne _ _ _ q3]; exact w q q1 q2 q3) (g.put h6.2 (by omega) (fun z => by rw [(bI_ne _).mp c] at z; cases z))
theorem lp_mw9 {Q : KQ} {m : Nat} {S : Snap} {kk : KI → Prop} (I0 : KI) (hM : MdQ Q) (hN : RowIs (I0 288) S) (hG : Gs S) (hS : SentM I0 (sndM S m) (S.1 0)) (hp : ∀ I, (∀ q, q ≠ 292 → q ≠ 295 → q ≠ 296 → I q = I0 q) → GrI I S m 296 0 (S.1 0) 0 → kk I) : ∀ d v I, v + d = S.1 0 → (∀ q, q ≠ 292 → q ≠ 295 → q ≠ 296 → I q = I0 q) → GrI I S m 296 0 v 0 → wp_X11_worst_L9 Q 287 (nI (S.1 0)) kk (d + 1) I (nI v) := by
  have h6 := hG.1
  intro d
  induction d with
  | zero =>
    intro v I hv w g
    have : v = S.1 0 := by omega
    subst this
    unfold wp_X11_worst_L9
    exact br_t (nI_le (Nat.le_refl _) (by omega)) (hp I w g)
  | succ d ih =>
    intro v I hv w g
    unfold wp_X11_worst_L9
    refine br_f (nI_ge (by omega) (by omega)) ⟨2 ^ S.1 0 + 1, lp_mw16 I hM (by rw [w 288 (by decide) (by decide) (by decide)]; exact hN) hG (hS.keep (w 293 (by decide) (by decide) (by decide)) (w 294 (by decide) (by decide) (by decide))) (by omega) (fun I1 y1 y2 => ?_) (2 ^ S.1 0) 0 I (by omega) (fun _ _ _ _ => rfl) g⟩
    rw [nI_1]
    exact ih (v + 1) I1 (by omega) (fun q q1 q2 q3 => by rw [y1 q q1 q2 q3]; exact w q q1 q2 q3) (y2.next 0 (Nat.le_refl _))
theorem lp_mw87 {I : KI} {Q : KQ} {m l : Nat} {S : Snap} {kk : Int32 → Prop} (hM : MdQ Q) (hG : Gs S) (hl : l < 2 ^ 15) (hg : GrI I S m 296 0 (S.1 0) 0) (hp : kk (nI (gsT S m l (S.1 0)))) : ∀ d v, v + d = S.1 0 → wp_X11_worst_L87 I Q 287 (nI (S.1 0)) (nI l) kk (d + 1) (nI (gsT S m l v)) (nI v) := by
  have h6 := hG.1
  have h26 : 2 ^ S.1 0 ≤ 2 ^ 6 := Nat.pow_le_pow_right (by omega) h6.2
  intro d
  induction d with
  | zero =>
    intro v hv
    have : v = S.1 0 := by omega
    subst this
    unfold wp_X11_worst_L87
    exact br_t (nI_le (Nat.le_refl _) (by omega)) hp
  | succ d ih =>
    intro v hv
    have hn := nbT_lt l v (S.1 0)
    have hb : (nbT l v (S.1 0)).testBit v = false := by
      rw [nbT_bit]
      exact decide_eq_false (fun z => z.2.1 rfl)
    have hgv := hg v (by omega) (nbT l v (S.1 0)) (Nat.zero_le _) hn (Or.inl (by omega)) hb
    unfold wp_X11_worst_L87
    refine br_f (nI_ge (by omega) (by omega)) (ms_linkedBy h6.2 (by omega) (by omega) ?_)
    rw [hM.grown, show (64 : Int32) * nI v = nI (64 * v) from pk_mul 64 v, nI_add, nI_clamp (n := 64 * v + nbT l v (S.1 0)) (by omega), hgv, nI_add, nI_1]
    exact ⟨vp_in_nI (by omega) (by decide), ih (v + 1) (by omega)⟩
def rfT (P : Nat → Bool) (f : Nat → Nat) : Nat → Option Nat
  | 0 => none
  | l + 1 => match rfT P f l with
    | none => if P l = true then some (f l) else none
    | some k => if f l < k ∧ P l = true then some (f l) else some k
theorem rfT_ok (P : Nat → Bool) (f : Nat → Nat) : ∀ l, (∀ k, rfT P f l = some k → (∃ i, i < l ∧ P i = true ∧ f i = k) ∧ ∀ i, i < l → P i = true → k ≤ f i) ∧ (rfT P f l = none → ∀ i, i < l → P i = false) := by
  intro l
  induction l with
  | zero => exact ⟨fun k h => by simp [rfT] at h, fun _ i hi => absurd hi (Nat.not_lt_zero i)⟩
  | succ l ih =>
    obtain ⟨h1, h2⟩ := ih
    cases he : rfT P f l with
    | none =>
      have hno := h2 he
      have e : rfT P f (l + 1) = if P l = true then some (f l) else none := by simp only [rfT, he]
      rw [e]
      by_cases hp : P l = true
      · rw [if_pos hp]
        refine ⟨fun k hk => ?_, fun z => by cases z⟩
        have hk : f l = k := Option.some.inj hk
        refine ⟨⟨l, by omega, hp, hk⟩, fun i hi hpi => ?_⟩
        by_cases hil : i = l
        · subst hil; omega
        · rw [hno i (by omega)] at hpi; cases hpi
      · rw [if_neg hp]
        refine ⟨fun k hk => (by cases hk), fun _ i hi => ?_⟩
        by_cases hil : i = l
        · subst hil; simpa using hp
        · exact hno i (by omega)
    | some k0 =>
      obtain ⟨⟨i0, a1, a2, a3⟩, a4⟩ := h1 k0 he
      have e : rfT P f (l + 1) = if f l < k0 ∧ P l = true then some (f l) else some k0 := by simp only [rfT, he]
      rw [e]
      by_cases hp : f l < k0 ∧ P l = true
      · rw [if_pos hp]
        refine ⟨fun k hk => ?_, fun z => by cases z⟩
        have hk : f l = k := Option.some.inj hk
        refine ⟨⟨l, by omega, hp.2, hk⟩, fun i hi hpi => ?_⟩
        by_cases hil : i = l
        · subst hil; omega
        · have := a4 i (by omega) hpi; omega
      · rw [if_neg hp]
        refine ⟨fun k hk => ?_, fun z => by cases z⟩
        have hk : k0 = k := Option.some.inj hk
        subst hk
        refine ⟨⟨i0, by omega, a2, a3⟩, fun i hi hpi => ?_⟩
        by_cases hil : i = l
        · subst hil
          apply Nat.le_of_not_lt
          intro z
          exact hp ⟨z, hpi⟩
        · exact a4 i (by omega) hpi
def opI : Option Nat → Int32
  | none => -1
  | some k => nI k
def joB (S : Snap) : Nat → Bool := fun l => joinB l (S.1 0)
theorem worst_eq {S : Snap} (hG : Gs S) (m : Nat) : rfT (joB S) (fgT S m) (2 ^ (S.1 0 * (S.1 0 - 1) / 2)) = some (mnT (ftT S m) (S.1 0 ^ (S.1 0 - 2))) := by
  have h6 := hG.1
  obtain ⟨r1, r2⟩ := rfT_ok (joB S) (fgT S m) (2 ^ (S.1 0 * (S.1 0 - 1) / 2))
  obtain ⟨m1, m2, m3⟩ := mnT_ok (ftT S m) (S.1 0 ^ (S.1 0 - 2))
  have tl : ∀ c, c < S.1 0 ^ (S.1 0 - 2) → joB S (tlT (S.1 0) c) = true ∧ tlT (S.1 0) c < 2 ^ (S.1 0 * (S.1 0 - 1) / 2) := fun c hc => by
    have hB := tl_all h6.1 h6.2 hc
    unfold tlB at hB
    simp only [Bool.and_eq_true] at hB
    exact ⟨hB.2.1, of_decide_eq_true hB.2.2.2⟩
  cases he : rfT (joB S) (fgT S m) (2 ^ (S.1 0 * (S.1 0 - 1) / 2)) with
  | none =>
    have h0 := tl 0 (Nat.pow_pos (by omega))
    rw [r2 he _ h0.2] at h0
    cases h0.1
  | some k =>
    obtain ⟨⟨i, i1, i2, i3⟩, hle⟩ := r1 k he
    congr 1
    apply Nat.le_antisymm
    · rcases m3 with h | ⟨c, c1, c2⟩
      · have := gsT_le hG m i (S.1 0) (Nat.le_refl _)
        have i3 : gsT S m i (S.1 0) = k := i3
        omega
      · have := hle _ (tl c c1).2 (tl c c1).1
        have c2 : gsT S m (tlT (S.1 0) c) (S.1 0) = _ := c2
        have this : k ≤ gsT S m (tlT (S.1 0) c) (S.1 0) := this
        omega
    · obtain ⟨c, c1, c2⟩ := tree_in h6.1 h6.2 i1 i2
      have h1 := gsT_mono hG m c2 (S.1 0) (Nat.le_refl _)
      have h2 : mnT (ftT S m) (S.1 0 ^ (S.1 0 - 2)) ≤ gsT S m (tlT (S.1 0) c) (S.1 0) := m2 c c1
      have i3 : gsT S m i (S.1 0) = k := i3
      omega
theorem lp_mw68 {I : KI} {Q : KQ} {m : Nat} {S : Snap} {post : Int32 → KI → Prop} (hM : MdQ Q) (hN : RowIs (I 288) S) (hG : Gs S) (hg : GrI I S m 296 0 (S.1 0) 0) (hp : post (nI (mnT (ftT S m) (S.1 0 ^ (S.1 0 - 2)))) I) : ∀ d l, l + d = 2 ^ (S.1 0 * (S.1 0 - 1) / 2) → wp_X11_worst_L68 I Q 287 (nI (S.1 0)) post (d + 1) (opI (rfT (joB S) (fgT S m) l)) (nI l) := by
  have h6 := hG.1
  have hE : S.1 0 * (S.1 0 - 1) / 2 ≤ 15 := by
    rcases (show S.1 0 = 2 ∨ S.1 0 = 3 ∨ S.1 0 = 4 ∨ S.1 0 = 5 ∨ S.1 0 = 6 by omega) with h | h | h | h | h <;> rw [h] <;> decide
  have hsh : (1 : Int32) <<< (((nI (S.1 0) * (nI (S.1 0) - (1 : Int32))) / (2 : Int32)) &&& 31) = nI (2 ^ (S.1 0 * (S.1 0 - 1) / 2)) := by
    rw [show nI (S.1 0) - (1 : Int32) = nI (S.1 0 - 1) from pk_sub (a := S.1 0) (b := 1) (by omega), pk_mul, show nI (S.1 0 * (S.1 0 - 1)) / (2 : Int32) = nI (S.1 0 * (S.1 0 - 1) / 2) from pk_div (d := 2) ?_ (by decide) (by decide), ni_shl1 _ (by omega)]
    have : S.1 0 * (S.1 0 - 1) ≤ 6 * 6 := Nat.mul_le_mul h6.2 (by omega)
    omega
  have h215 : 2 ^ (S.1 0 * (S.1 0 - 1) / 2) ≤ 2 ^ 15 := Nat.pow_le_pow_right (by omega) hE
  intro d
  induction d with
  | zero =>
    intro l hl
    have : l = 2 ^ (S.1 0 * (S.1 0 - 1) / 2) := by omega
    subst this
    unfold wp_X11_worst_L68
    rw [hsh, worst_eq hG m]
    exact br_t (nI_le (Nat.le_refl _) (by omega)) hp
  | succ d ih =>
    intro l hl
    have ih := ih (l + 1) (by omega)
    have hgs := gsT_le hG m l (S.1 0) (Nat.le_refl _)
    unfold wp_X11_worst_L68
    rw [hsh, nI_1]
    refine br_f (nI_ge (by omega) (by omega)) ⟨S.1 0 + 1, lp_mw87 hM hG (by omega) hg ?_ (S.1 0) 0 (by omega)⟩
    cases he : rfT (joB S) (fgT S m) l with
    | none =>
      have e : rfT (joB S) (fgT S m) (l + 1) = if joB S l = true then some (fgT S m l) else none := by simp only [rfT, he]
      rw [e] at ih
      refine ⟨fun _ => ms_areJoined hM hN.n (by omega) h6.2 (by omega) ⟨fun c => ?_, fun c => ?_⟩, fun c => absurd (by decide) c⟩
      · rw [if_neg (by rw [show joB S l = false from (bI_eq _).mp c]; decide)] at ih
        exact ih
      · rw [if_pos (show joB S l = true from (bI_ne _).mp c)] at ih
        exact ih
    | some k =>
      obtain ⟨⟨i0, a1, a2, a3⟩, -⟩ := (rfT_ok (joB S) (fgT S m) l).1 k he
      have hk : k < 2 ^ 31 := by
        have := gsT_le hG m i0 (S.1 0) (Nat.le_refl _)
        have a3 : gsT S m i0 (S.1 0) = k := a3
        omega
      have e : rfT (joB S) (fgT S m) (l + 1) = if fgT S m l < k ∧ joB S l = true then some (fgT S m l) else some k := by simp only [rfT, he]
      rw [e] at ih
      refine ⟨fun c => absurd c (nI_pos hk), fun _ => ⟨fun c => ?_, fun c => ms_areJoined hM hN.n (by omega) h6.2 (by omega) ⟨fun c2 => ?_, fun c2 => ?_⟩⟩⟩
      · have := (nI_leI hk (by omega)).mp c
        rw [if_neg (fun z => by have z1 : gsT S m l (S.1 0) < k := z.1; omega)] at ih
        exact ih
      · rw [if_neg (fun z => by rw [show joB S l = false from (bI_eq _).mp c2] at z; cases z.2)] at ih
        exact ih
      · have : ¬ k ≤ gsT S m l (S.1 0) := fun z => c (nI_le z (by omega))
        rw [if_pos ⟨by show gsT S m l (S.1 0) < k; omega, show joB S l = true from (bI_ne _).mp c2⟩] at ih
        exact ih
set_option maxHeartbeats 1000000 in
theorem op_gain {I : KI} {J : KJ} {Q : KQ} {b : Nat} {x1 : Int32} {post : Int32 → KI → Prop} (h : Rel I J Q b) (hb31 : b < 2 ^ 30) (hp : ∀ r I4, (∀ p2 : Int32 → KI → Prop, (∀ I5, Rel I5 J Q b → p2 r I5) → wp_X11_gain I4 Q 287 x1 p2) → post r I4) : wp_X10_gain I Q 0 x1 post := by
  obtain ⟨hR, π, hP, S, hs, m, hC⟩ := id h
  obtain ⟨c1, c2, c3, c4, ⟨a, ha, c5, c6⟩, hG, hb, hH⟩ := hC
  obtain ⟨⟨a0, a1, a2, a3, a4, a5, a6, a7, a8, a9, a10⟩, ⟨q1, q2, q3, q4⟩, ⟨d1, d2, d3, d4, d5, -⟩, -, hM⟩ := id hR.1
  have h6 := hG.1
  unfold wp_X10_gain
  rw [a0, a5, a6, show I 1 5 = nI (S.1 2) from c1.1 2 (by omega)]
  rcases inCase x1 0 2 with ⟨w, hw0, hw, rfl⟩ | hno
  · refine br_f (nI_pos (by omega)) (br_t (nI_le (b := 2) hw (by decide)) (sp_prepare q4 q1 c1 hG (by omega) hG.2.2.1 (by omega) (fun I1 y1 y2 y3 => ?_)))
    have n1 : NetIs I1 1 S := c1.fr (fun k _ _ => y1 k (by omega) (by omega) (by omega))
    have frr : ∀ I4 I5 : KI, (∀ q, (q < 260 ∨ 269 ≤ q) → I4 q = I q) → (∀ q, q ≠ 287 → q ≠ 292 → q ≠ 293 → q ≠ 294 → q ≠ 295 → q ≠ 296 → I5 q = I4 q) → (∀ j, j ≠ 12 → I5 287 j = I4 287 j) → Rel I5 J Q b := fun I4 I5 z1 z2 z3 => h.fr ⟨fun q hq => by rw [z2 q (by omega) (by omega) (by omega) (by omega) (by omega) (by omega), z1 q (by omega)], by rw [z2 274 (by omega) (by omega) (by omega) (by omega) (by omega) (by omega), z1 274 (by omega)], fun j hj => by rw [z3 j (by omega), z1 287 (by omega)]⟩
    have mods : ∀ (I4 : KI) (p2 : Int32 → KI → Prop), (∀ q, (q < 260 ∨ 269 ≤ q) → I4 q = I q) → (∀ I5, (∀ q, q ≠ 287 → q ≠ 293 → q ≠ 294 → I5 q = I4 q) → (∀ j, j ≠ 12 → I5 287 j = I4 287 j) → SentM I5 (sndM S (S.1 2)) (S.1 0) → RowIs (I5 288) S → ((¬ nI w = (1 : Int32) → (∃ q32, wp_X11_gain_L32 Q 287 (nI w) p2 q32 I5 (0 : Int32) (0 : Int32))) ∧ (nI w = (1 : Int32) → wp_X11_worst I5 Q 287 (fun r26 I26 => p2 r26 I26)))) → wp_X11_gain I4 Q 287 (nI w) p2 := by
      intro I4 p2 z1 h2
      have c3' : RowIs (I4 288) S := by rw [z1 288 (by omega)]; exact c3
      unfold wp_X11_gain
      exact ms_in1 (lo := 0) (hi := 2) hw0 hw (by decide) ⟨fun _ => ms_laysSends hM c3' hG (by omega) (fun I5 u1 u2 u3 u4 => h2 I5 u1 u2 u4 (by rw [u1 288 (by decide) (by decide) (by decide)]; exact c3')), fun c => absurd c (by decide)⟩
    have sums : ∀ I4 : KI, w = 0 ∨ w = 2 → (∀ q, (q < 260 ∨ 269 ≤ q) → I4 q = I q) → post (nI (if w = 2 then obT S (S.1 2) (S.1 0) else gsT S (S.1 2) (prT S) (S.1 0))) I4 := by
      intro I4 hw2 z1
      refine hp _ _ (fun p2 h2 => mods I4 p2 z1 (fun I5 u1 u2 u3 u4 => ⟨fun _ => ⟨S.1 0 + 1, ?_⟩, fun c => ?_⟩))
      · have := lp_mgain (post := p2) I5 hM u4 hG (by omega) u3 hw2 (fun I6 t => h2 I6 (frr I4 I6 z1 (fun q e1 e2 e3 e4 e5 e6 => by rw [t q e2 e5, u1 q e1 e3 e4]) (fun j hj => by rw [t 287 (by decide) (by decide)]; exact u2 j hj))) (S.1 0) 0 I5 (by omega) (fun _ _ _ => rfl)
        have e0 : (if w = 2 then obT S (S.1 2) 0 else gsT S (S.1 2) (prT S) 0) = 0 := by split <;> rfl
        rw [e0] at this
        exact this
      · have := (nI_eq (b := 1) (show w < 2 ^ 31 by omega) (by decide)).mp c
        omega
    rcases (show w = 0 ∨ w = 1 ∨ w = 2 by omega) with rfl | rfl | rfl
    · refine ⟨fun _ => ⟨fun c => absurd rfl c, fun _ => ⟨S.1 0 + 1, ?_⟩⟩, fun c => absurd c (by decide)⟩
      refine lp_present I1 q4 q1 n1 hG (by omega) y3 (fun I2 z => ?_) (S.1 0) 0 I1 (by omega) (fun _ _ => rfl)
      have := sums I2 (Or.inl rfl) (fun q hq => by rw [z q (by omega), y1 q (by omega) (by omega) (by omega)])
      simpa using this
    · refine ⟨fun c => absurd rfl c, fun _ => ?_⟩
      have h20 := Nat.two_pow_pos (S.1 0)
      refine ⟨S.1 0 + 1, lp_find2 I1 q4 q1 d1 n1 hG y3 (fun I2 z1 z2 => ?_) (S.1 0) 0 I1 (by omega) (fun _ _ _ => rfl) (fun v' _ s' _ _ hl => by omega)⟩
      rw [show I2 1 3 = nI (S.1 0) by rw [z1 1 (by decide) (by decide)]; exact n1.1 0 (by omega)]
      refine sp_worst d1 d2 d3 hG z2 (fun I3 t => hp _ _ (fun p2 h2 => mods I3 p2 (fun q hq => by rw [t q (by omega) (by omega), z1 q (by omega) (by omega), y1 q (by omega) (by omega) (by omega)]) (fun I5 u1 u2 u3 u4 => ⟨fun c => absurd rfl c, fun _ => ?_⟩)))
      unfold wp_X11_worst
      rw [hM.now, tc0, u4.n]
      refine ⟨S.1 0 + 1, lp_mw9 I5 hM u4 hG u3 (fun I6 k1 k2 => ⟨2 ^ (S.1 0 * (S.1 0 - 1) / 2) + 1, ?_⟩) (S.1 0) 0 I5 (by omega) (fun _ _ _ _ => rfl) (fun v' _ s' _ _ hl => by omega)⟩
      refine lp_mw68 hM (by rw [k1 288 (by decide) (by decide) (by decide)]; exact u4) hG k2 (h2 I6 (frr I3 I6 (fun q hq => by rw [t q (by omega) (by omega), z1 q (by omega) (by omega), y1 q (by omega) (by omega) (by omega)]) (fun q e1 e2 e3 e4 e5 e6 => by rw [k1 q e2 e5 e6, u1 q e1 e3 e4]) (fun j hj => by rw [k1 287 (by decide) (by decide) (by decide)]; exact u2 j hj))) _ 0 (by omega)
    · refine ⟨fun _ => ⟨fun _ => ⟨S.1 0 + 1, ?_⟩, fun c => absurd c (by decide)⟩, fun c => absurd c (by decide)⟩
      refine lp_best I1 q4 q1 n1 hG y3 (fun I2 z => ?_) (S.1 0) 0 I1 (by omega) (fun _ _ => rfl)
      have := sums I2 (Or.inr rfl) (fun q hq => by rw [z q (by omega), y1 q (by omega) (by omega) (by omega)])
      simpa using this
  · have hbad : post (-1) I := hp _ _ (fun p2 h2 => by
      unfold wp_X11_gain
      exact ms_in0 (lo := 0) (hi := 2) hno (by decide) (by decide) ⟨fun c => absurd rfl c, fun _ => h2 I h⟩)
    exact ⟨fun _ => hbad, fun c => ⟨fun c2 => (rng_no (lo := 0) (hi := 2) hno (by decide) (by decide) c c2).elim, fun _ => hbad⟩⟩
