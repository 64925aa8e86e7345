/-! PURE, 24: views -/
/-- how many of a set have a view -/
def havT (s : Nat) (vw : Nat → Nat) (k : Nat) : Nat → Nat
  | 0 => 0
  | u + 1 => havT s vw k u + if s.testBit u = true ∧ vw u = k then 1 else 0
theorem havT_le (s : Nat) (vw : Nat → Nat) (k : Nat) : ∀ i, havT s vw k i ≤ i := by
  intro i
  induction i with
  | zero => exact Nat.le_refl _
  | succ i ih =>
    simp only [havT]
    split <;> omega
def alikeB (p n : Nat) (vw : Nat → Nat) (u v : Nat) : Bool := decide (vw u = vw v) && alB (fun k => decide (havT (nbT p u n) vw k n = havT (nbT p v n) vw k n)) n
def fstT (lk : Nat → Bool) : Nat → Nat → Nat
  | 0, i => i
  | d + 1, i => if lk i then i else fstT lk d (i + 1)
theorem fstT_t {lk : Nat → Bool} {d i : Nat} (h : lk i = true) : fstT lk (d + 1) i = i := by simp [fstT, h]
theorem fstT_f {lk : Nat → Bool} {d i : Nat} (h : lk i = false) : fstT lk (d + 1) i = fstT lk d (i + 1) := by simp [fstT, h]
theorem fstT_le (lk : Nat → Bool) : ∀ d i, fstT lk d i ≤ i + d := by
  intro d
  induction d with
  | zero => intro i; exact Nat.le_refl _
  | succ d ih =>
    intro i
    simp only [fstT]
    have := ih (i + 1)
    split <;> omega
def likT (p n : Nat) (vw : Nat → Nat) (v : Nat) : Nat := fstT (fun u => alikeB p n vw u v) v 0
theorem likT_le (p n : Nat) (vw : Nat → Nat) (v : Nat) : likT p n vw v ≤ v := by
  have := fstT_le (fun u => alikeB p n vw u v) v 0
  unfold likT
  omega
def nxtT (p n : Nat) (vw : Nat → Nat) : Nat → Nat × (Nat → Nat)
  | 0 => (0, vw)
  | v + 1 => if likT p n vw v = v then ((nxtT p n vw v).1 + 1, upk (nxtT p n vw v).2 v (nxtT p n vw v).1) else ((nxtT p n vw v).1, upk (nxtT p n vw v).2 v ((nxtT p n vw v).2 (likT p n vw v)))
theorem nxtT_le (p n : Nat) (vw : Nat → Nat) : ∀ v, (nxtT p n vw v).1 ≤ v ∧ ∀ u, u < v → (nxtT p n vw v).2 u < v := by
  intro v
  induction v with
  | zero => exact ⟨Nat.le_refl _, fun u hu => absurd hu (Nat.not_lt_zero u)⟩
  | succ v ih =>
    obtain ⟨h1, h2⟩ := ih
    simp only [nxtT]
    by_cases hl : likT p n vw v = v
    · rw [if_pos hl]
      refine ⟨by show _ + 1 ≤ _; omega, fun u hu => ?_⟩
      show upk _ v _ u < _
      by_cases huv : u = v
      · subst huv; rw [upk_s]; omega
      · rw [upk_n huv]; have := h2 u (by omega); omega
    · rw [if_neg hl]
      have := likT_le p n vw v
      refine ⟨by show _ ≤ _; omega, fun u hu => ?_⟩
      show upk _ v _ u < _
      by_cases huv : u = v
      · subst huv; rw [upk_s]; have := h2 (likT p n vw u) (by omega); omega
      · rw [upk_n huv]; have := h2 u (by omega); omega
def behT (S : Snap) : Nat → Nat × (Nat → Nat)
  | 0 => (2, fun v => if v = 0 then 0 else 1)
  | j + 1 => nxtT (S.2.1 ((S.1 4 + j) / S.1 3 % S.1 6)) (S.1 0) (behT S j).2 (S.1 0)
theorem behT_lt {S : Snap} (hG : Gs S) : ∀ j u, u < S.1 0 → (behT S j).2 u < 6 := by
  have h1 := hG.1
  intro j u hu
  cases j with
  | zero =>
    show (if u = 0 then 0 else 1) < 6
    split <;> decide
  | succ j =>
    have := (nxtT_le (S.2.1 ((S.1 4 + j) / S.1 3 % S.1 6)) (S.1 0) (behT S j).2 (S.1 0)).2 u hu
    simp only [behT]
    omega
/-! the class -/
theorem lp_having {I : KI} {Q : KQ} {n s k : Nat} {vw : Nat → Nat} {post : Int32 → Prop} (h0 : rq Q 269 0 = 270) (hn : I 1 3 = nI n) (hn6 : n ≤ 6) (hs : s < 2 ^ 32) (hk : k < 2 ^ 31) (hv : ∀ u, u < n → I 270 u = nI (vw u) ∧ vw u < 6) (hp : post (nI (havT s vw k n))) : ∀ d u, u + d = n → wp_X9_having_L6 I Q 269 1 (nI k) (nI s) post (d + 1) (nI (havT s vw k u)) (nI u) := by
  intro d
  induction d with
  | zero =>
    intro u hu
    have : u = n := by omega
    subst this
    unfold wp_X9_having_L6
    rw [hn]
    exact br_t (nI_le (Nat.le_refl _) (by omega)) hp
  | succ d ih =>
    intro u hu
    have ih := ih (u + 1) (by omega)
    obtain ⟨v1, v2⟩ := hv u (by omega)
    unfold wp_X9_having_L6
    rw [hn, h0, nI_clamp (n := u) (by omega), v1, nI_1 u, nI_eq (by omega) hk]
    have e0 : ¬ (s.testBit u = true ∧ vw u = k) → nI (havT s vw k u) + (0 : Int32) = nI (havT s vw k (u + 1)) := fun z => by
      simp only [havT]
      rw [if_neg z]
      exact nI_add _ 0
    refine br_f (nI_ge (by omega) (by omega)) (sp_has hs (by omega) ⟨fun c => ?_, fun c => ⟨vp_in_nI (by omega) (by decide), fun c2 => ?_, fun c2 => ?_⟩⟩)
    · rw [e0 (fun z => by rw [(bI_eq _).mp c] at z; exact absurd z.1 (by decide))]
      exact ih
    · rw [e0 (fun z => c2 z.2)]
      exact ih
    · have e1 : havT s vw k (u + 1) = havT s vw k u + 1 := by
        simp only [havT]
        rw [if_pos ⟨(bI_ne _).mp c, c2⟩]
      rw [nI_1, ← e1]
      exact ih
theorem sp_having {I : KI} {Q : KQ} {n s k : Nat} {vw : Nat → Nat} {post : Int32 → Prop} (h0 : rq Q 269 0 = 270) (hn : I 1 3 = nI n) (hn6 : n ≤ 6) (hs : s < 2 ^ 32) (hk : k < 2 ^ 31) (hv : ∀ u, u < n → I 270 u = nI (vw u) ∧ vw u < 6) (hp : post (nI (havT s vw k n))) : wp_X9_having I Q 269 1 (nI k) (nI s) post := ⟨n + 1, lp_having h0 hn hn6 hs hk hv hp n 0 (by omega)⟩
theorem lp_seeAlike {I : KI} {Q : KQ} {n s1 s2 : Nat} {vw : Nat → Nat} {post : Int32 → Prop} (h0 : rq Q 269 0 = 270) (hn : I 1 3 = nI n) (hn6 : n ≤ 6) (hs1 : s1 < 2 ^ 32) (hs2 : s2 < 2 ^ 32) (hv : ∀ u, u < n → I 270 u = nI (vw u) ∧ vw u < 6) (hp : post (bI (alB (fun k => decide (havT s1 vw k n = havT s2 vw k n)) n))) : ∀ d k, k + d = n → alB (fun k => decide (havT s1 vw k n = havT s2 vw k n)) k = true → wp_X9_seeAlike_L3 I Q 269 1 (nI s1) (nI s2) post (d + 1) (nI k) := by
  intro d
  induction d with
  | zero =>
    intro k hk ha
    have : k = n := by omega
    subst this
    unfold wp_X9_seeAlike_L3
    rw [hn]
    rw [ha] at hp
    exact br_t (nI_le (Nat.le_refl _) (by omega)) hp
  | succ d ih =>
    intro k hk ha
    have l1 := havT_le s1 vw k n
    have l2 := havT_le s2 vw k n
    unfold wp_X9_seeAlike_L3
    rw [hn]
    refine br_f (nI_ge (by omega) (by omega)) (sp_having h0 hn hn6 hs1 (by omega) hv (sp_having h0 hn hn6 hs2 (by omega) hv ?_))
    rw [nI_1, nI_eq (by omega) (by omega)]
    refine ⟨fun c => ih (k + 1) (by omega) ?_, fun c => ?_⟩
    · simp only [alB]
      rw [ha, decide_eq_true c]
      rfl
    · rw [alB_f (p := fun k => decide (havT s1 vw k n = havT s2 vw k n)) (show k < n by omega) (decide_eq_false c)] at hp
      exact hp
theorem sp_seeAlike {I : KI} {Q : KQ} {n s1 s2 : Nat} {vw : Nat → Nat} {post : Int32 → Prop} (h0 : rq Q 269 0 = 270) (hn : I 1 3 = nI n) (hn6 : n ≤ 6) (hs1 : s1 < 2 ^ 32) (hs2 : s2 < 2 ^ 32) (hv : ∀ u, u < n → I 270 u = nI (vw u) ∧ vw u < 6) (hp : post (bI (alB (fun k => decide (havT s1 vw k n = havT s2 vw k n)) n))) : wp_X9_seeAlike I Q 269 1 (nI s1) (nI s2) post := ⟨n + 1, lp_seeAlike h0 hn hn6 hs1 hs2 hv hp n 0 (by omega) rfl⟩
theorem lp_leastLike {I : KI} {Q : KQ} {r v : Nat} {S : Snap} {vw : Nat → Nat} {post : Int32 → Prop} (h0 : rq Q 269 0 = 270) (hQ : NetQ Q 1) (hN : NetIs I 1 S) (hG : Gs S) (hr : r < 2 ^ 31) (hv : v < S.1 0) (hw : ∀ u, u < S.1 0 → I 270 u = nI (vw u) ∧ vw u < 6) : ∀ d u, u + d = v → post (nI (fstT (fun u => alikeB (S.2.1 (r / S.1 3 % S.1 6)) (S.1 0) vw u v) d u)) → wp_X9_leastLike_L3 I Q 269 1 (nI r) (nI v) post (d + 1) (nI u) := by
  have h6 := hG.1
  have hn : I 1 3 = nI (S.1 0) := hN.1 0 (by omega)
  intro d
  induction d with
  | zero =>
    intro u hu hp
    have : u = v := by omega
    subst this
    unfold wp_X9_leastLike_L3
    exact br_t (nI_le (Nat.le_refl _) (by omega)) hp
  | succ d ih =>
    intro u hu hp
    have ih := ih (u + 1) (by omega)
    obtain ⟨u1, u2⟩ := hw u (by omega)
    obtain ⟨v1, v2⟩ := hw v hv
    have ef := fstT_f (lk := fun u => alikeB (S.2.1 (r / S.1 3 % S.1 6)) (S.1 0) vw u v) (d := d) (i := u)
    have et := fstT_t (lk := fun u => alikeB (S.2.1 (r / S.1 3 % S.1 6)) (S.1 0) vw u v) (d := d) (i := u)
    unfold wp_X9_leastLike_L3
    rw [h0, nI_clamp (n := u) (by omega), nI_clamp (n := v) (by omega), u1, v1, nI_1, nI_eq (by omega) (by omega)]
    refine br_f (nI_ge (by omega) (by omega)) ⟨vp_in_nI (by omega) (by decide), vp_in_nI (by omega) (by decide), fun c => ?_, fun c => ?_⟩
    · have e : alikeB (S.2.1 (r / S.1 3 % S.1 6)) (S.1 0) vw u v = false := by unfold alikeB; rw [decide_eq_false c]; rfl
      rw [ef e] at hp
      exact ih hp
    · refine sp_neighbours hQ hN hG hr (by omega) (sp_neighbours hQ hN hG hr (by omega) (sp_seeAlike h0 hn (by omega) (nb32 _ _ hG.1.2) (nb32 _ _ hG.1.2) hw ?_))
      have e : alikeB (S.2.1 (r / S.1 3 % S.1 6)) (S.1 0) vw u v = alB (fun k => decide (havT (nbT (S.2.1 (r / S.1 3 % S.1 6)) u (S.1 0)) vw k (S.1 0) = havT (nbT (S.2.1 (r / S.1 3 % S.1 6)) v (S.1 0)) vw k (S.1 0))) (S.1 0) := by unfold alikeB; rw [decide_eq_true c, Bool.true_and]
      refine ⟨fun c2 => ?_, fun c2 => ?_⟩
      · rw [ef (e.trans ((bI_eq _).mp c2))] at hp
        exact ih hp
      · rw [et (e.trans ((bI_ne _).mp c2))] at hp
        exact hp
theorem sp_leastLike {I : KI} {Q : KQ} {r v : Nat} {S : Snap} {vw : Nat → Nat} {post : Int32 → Prop} (h0 : rq Q 269 0 = 270) (hQ : NetQ Q 1) (hN : NetIs I 1 S) (hG : Gs S) (hr : r < 2 ^ 31) (hv : v < S.1 0) (hw : ∀ u, u < S.1 0 → I 270 u = nI (vw u) ∧ vw u < 6) (hp : post (nI (likT (S.2.1 (r / S.1 3 % S.1 6)) (S.1 0) vw v))) : wp_X9_leastLike I Q 269 1 (nI r) (nI v) post := ⟨v + 1, lp_leastLike h0 hQ hN hG hr hv hw v 0 (by omega) hp⟩
theorem lp_part {Q : KQ} {r : Nat} {S : Snap} {vw : Nat → Nat} {kk : KI → Int32 → Prop} (I0 : KI) (h0 : rq Q 269 0 = 270) (h1 : rq Q 269 1 = 271) (hQ : NetQ Q 1) (hN : NetIs I0 1 S) (hG : Gs S) (hr : r < 2 ^ 31) (hw : ∀ u, u < S.1 0 → I0 270 u = nI (vw u) ∧ vw u < 6) (hp : ∀ I, (∀ q, q ≠ 271 → I q = I0 q) → (∀ u, u < S.1 0 → I 271 u = nI ((nxtT (S.2.1 (r / S.1 3 % S.1 6)) (S.1 0) vw (S.1 0)).2 u)) → kk I (nI (nxtT (S.2.1 (r / S.1 3 % S.1 6)) (S.1 0) vw (S.1 0)).1)) : ∀ d v I, v + d = S.1 0 → (∀ q, q ≠ 271 → I q = I0 q) → (∀ u, u < v → I 271 u = nI ((nxtT (S.2.1 (r / S.1 3 % S.1 6)) (S.1 0) vw v).2 u)) → wp_X9_part_L5 Q 269 1 (nI r) kk (d + 1) I (nI (nxtT (S.2.1 (r / S.1 3 % S.1 6)) (S.1 0) vw v).1) (nI v) := by
  have h6 := hG.1
  intro d
  induction d with
  | zero =>
    intro v I hv w1 w2
    have : v = S.1 0 := by omega
    subst this
    unfold wp_X9_part_L5
    rw [w1 1 (by decide), show I0 1 3 = nI (S.1 0) from hN.1 0 (by omega)]
    exact br_t (nI_le (Nat.le_refl _) (by omega)) (hp I w1 w2)
  | succ d ih =>
    intro v I hv w1 w2
    have hle := likT_le (S.2.1 (r / S.1 3 % S.1 6)) (S.1 0) vw v
    unfold wp_X9_part_L5
    rw [h1, w1 1 (by decide), show I0 1 3 = nI (S.1 0) from hN.1 0 (by omega), nI_clamp (n := v) (by omega), nI_1, nI_1]
    refine br_f (nI_ge (by omega) (by omega)) (sp_leastLike h0 hQ (hN.fr (fun k _ _ => w1 k (by omega))) hG hr (by omega) (fun u hu => by rw [w1 270 (by decide)]; exact hw u hu) ?_)
    rw [nI_clamp (by omega), nI_eq (by omega) (by omega)]
    refine ⟨fun c => ⟨vp_in_nI (by omega) (by decide), vp_in_nI (by omega) (by decide), ?_⟩, fun c => ⟨vp_in_nI (by omega) (by decide), ?_⟩⟩
    · have := ih (v + 1) (sti I 271 v (I 271 (likT (S.2.1 (r / S.1 3 % S.1 6)) (S.1 0) vw v))) (by omega) (fun q hq => by rw [sti_ne _ _ _ hq]; exact w1 q hq) (fun u hu => ?_)
      · simp only [nxtT] at this
        rw [if_neg c] at this
        exact this
      · simp only [nxtT]
        rw [if_neg c, sti_at]
        show _ = nI (upk _ v _ u)
        by_cases huv : u = v
        · subst huv; rw [pk_us, upk_s]; exact w2 _ (by omega)
        · rw [pk_un huv, upk_n huv]; exact w2 u (by omega)
    · have := ih (v + 1) (sti I 271 v (nI (nxtT (S.2.1 (r / S.1 3 % S.1 6)) (S.1 0) vw v).1)) (by omega) (fun q hq => by rw [sti_ne _ _ _ hq]; exact w1 q hq) (fun u hu => ?_)
      · simp only [nxtT] at this
        rw [if_pos c] at this
        exact this
      · simp only [nxtT]
        rw [if_pos c, sti_at]
        show _ = nI (upk _ v _ u)
        by_cases huv : u = v
        · subst huv; rw [pk_us, upk_s]
        · rw [pk_un huv, upk_n huv]; exact w2 u (by omega)
theorem lp_behind1 {Q : KQ} {n : Nat} {kk : KI → Prop} (I0 : KI) (h0 : rq Q 269 0 = 270) (hn : I0 1 3 = nI n) (hn6 : n ≤ 6) (hp : ∀ I, (∀ q, q ≠ 270 → I q = I0 q) → (∀ u, u < n → I 270 u = nI (if u = 0 then 0 else 1)) → kk I) : ∀ d v I, v + d = n → (∀ q, q ≠ 270 → I q = I0 q) → (∀ u, u < v → I 270 u = nI (if u = 0 then 0 else 1)) → wp_X9_behind_L2 Q 269 1 kk (d + 1) I (nI v) := by
  intro d
  induction d with
  | zero =>
    intro v I hv w1 w2
    have : v = n := by omega
    subst this
    unfold wp_X9_behind_L2
    rw [w1 1 (by decide), hn]
    exact br_t (nI_le (Nat.le_refl _) (by omega)) (hp I w1 w2)
  | succ d ih =>
    intro v I hv w1 w2
    have hgo : ∀ x : Int32, x = nI (if v = 0 then 0 else 1) → wp_X9_behind_L2 Q 269 1 kk (d + 1) (sti I 270 v x) (nI (v + 1)) := fun x hx => ih (v + 1) _ (by omega) (fun q hq => by rw [sti_ne _ _ _ hq]; exact w1 q hq) (fun u hu => by
      rw [sti_at]
      by_cases huv : u = v
      · subst huv; rw [pk_us]; exact hx
      · rw [pk_un huv]; exact w2 u (by omega))
    unfold wp_X9_behind_L2
    rw [h0, w1 1 (by decide), hn, nI_clamp (n := v) (by omega), nI_1, nI_z (by omega)]
    exact br_f (nI_ge (by omega) (by omega)) ⟨fun c => ⟨vp_in_nI (by omega) (by decide), hgo _ (by rw [if_neg c]; rfl)⟩, fun c => ⟨vp_in_nI (by omega) (by decide), hgo _ (by rw [if_pos c]; rfl)⟩⟩
theorem lp_behind2 {Q : KQ} {m : Nat} {S : Snap} {post : Int32 → KI → Prop} (I0 : KI) (h0 : rq Q 269 0 = 270) (h1 : rq Q 269 1 = 271) (hQ : NetQ Q 1) (hN : NetIs I0 1 S) (hG : Gs S) (hr : S.1 4 < 2 ^ 30) (hm : m ≤ 9) (hp : ∀ I, (∀ q, q ≠ 270 → q ≠ 271 → I q = I0 q) → (∀ u, u < S.1 0 → I 270 u = nI ((behT S m).2 u)) → post (nI (behT S m).1) I) : ∀ d j I, j + d = m → (∀ q, q ≠ 270 → q ≠ 271 → I q = I0 q) → (∀ u, u < S.1 0 → I 270 u = nI ((behT S j).2 u)) → wp_X9_behind_L36 Q 269 1 (nI m) post (d + 1) I (nI (behT S j).1) (nI j) := by
  have h6 := hG.1
  intro d
  induction d with
  | zero =>
    intro j I hj w1 w2
    have : j = m := by omega
    subst this
    unfold wp_X9_behind_L36
    exact br_t (nI_le (Nat.le_refl _) (by omega)) (hp I w1 w2)
  | succ d ih =>
    intro j I hj w1 w2
    unfold wp_X9_behind_L36
    have e7 : I 1 7 = nI (S.1 4) := by rw [w1 1 (by decide) (by decide)]; exact hN.1 4 (by omega)
    have n1 : NetIs I 1 S := hN.fr (fun k _ _ => w1 k (by omega) (by omega))
    rw [e7, nI_add, nI_1]
    refine br_f (nI_ge (by omega) (by omega)) ?_
    unfold wp_X9_part
    rw [h0, h1, tc0]
    refine ⟨S.1 0 + 1, lp_part (vw := (behT S j).2) I h0 h1 hQ n1 hG (by omega) (fun u hu => ⟨w2 u hu, behT_lt hG j u hu⟩) (fun I1 z1 z2 => ?_) (S.1 0) 0 I (by omega) (fun _ _ => rfl) (fun u hu => absurd hu (Nat.not_lt_zero u))⟩
    have e3 : I1 1 3 = nI (S.1 0) := by rw [z1 1 (by decide)]; exact n1.1 0 (by omega)
    rw [e3, nI_clamp (n := S.1 0) (by omega)]
    refine ⟨by decide, by decide, nI_pos (by omega), by omega, by omega, ?_⟩
    refine ih (j + 1) _ (by omega) (fun q q1 q2 => by rw [cpi_ne _ _ _ _ _ _ q1, z1 q q2]; exact w1 q q1 q2) (fun u hu => ?_)
    rw [cpi_in _ _ _ _ _ _ (Nat.zero_le u) (by omega), show 0 + (u - 0) = u by omega]
    exact z2 u hu
theorem sp_behind {I : KI} {Q : KQ} {m : Nat} {S : Snap} {post : Int32 → KI → Prop} (h0 : rq Q 269 0 = 270) (h1 : rq Q 269 1 = 271) (hQ : NetQ Q 1) (hN : NetIs I 1 S) (hG : Gs S) (hr : S.1 4 < 2 ^ 30) (hm : m ≤ 9) (hp : ∀ I', (∀ q, q ≠ 270 → q ≠ 271 → I' q = I q) → (∀ u, u < S.1 0 → I' 270 u = nI ((behT S m).2 u)) → post (nI (behT S m).1) I') : wp_X9_behind I Q 269 1 (nI m) post := by
  have h6 := hG.1
  unfold wp_X9_behind
  refine ⟨S.1 0 + 1, lp_behind1 I h0 (hN.1 0 (by omega)) h6.2 (fun I1 w1 w2 => ⟨m + 1, ?_⟩) (S.1 0) 0 I (by omega) (fun _ _ => rfl) (fun u hu => absurd hu (Nat.not_lt_zero u))⟩
  exact lp_behind2 I h0 h1 hQ hN hG hr hm hp m 0 I1 (by omega) (fun q q1 _ => w1 q q1) w2
/-! the reference -/
theorem ms_see {I : KI} {p u w n k : Nat} {k0 k1 : Prop} {vw : Nat → Nat} (hp15 : p < 2 ^ 15) (hn6 : n ≤ 6) (hu : u < n) (hw : w < n) (hk : k < 2 ^ 31) (h7 : I 297 w = nI (vw w)) (h8 : vw w < 6) (h0 : ¬ ((nbT p u n).testBit w = true ∧ vw w = k) → k0) (h1 : (nbT p u n).testBit w = true ∧ vw w = k → k1) : (¬ I 297 w = nI k → k0) ∧ (I 297 w = nI k → ((nI w = nI u → k0) ∧ (¬ nI w = nI u → wp_X11_linkOf (nI u) (nI w) (fun r => wp_X11_has (nI p) r (fun r2 => ((r2 = 0 → k0) ∧ (¬ r2 = 0 → k1))))))) := by
  rw [h7, nI_eq (by omega) hk, nI_eq (by omega) (by omega)]
  refine ⟨fun c => h0 (fun z => c z.2), fun c => ⟨fun c2 => h0 (fun z => ?_), fun c2 => ?_⟩⟩
  · rw [nbT_bit] at z
    exact absurd c2 (of_decide_eq_true z.1).2.1
  · have hpi := pi2_lt 6 (by decide) u (by omega) w (by omega) (fun e => c2 e.symm)
    have hpi2 : pi2 u w < 15 := hpi
    refine ms_linkOf (by omega) (by omega) (fun e => c2 e.symm) (ms_has (by omega) (by omega) ⟨fun c3 => h0 (fun z => ?_), fun c3 => h1 ?_⟩)
    · rw [nbT_bit] at z
      have z1 := (of_decide_eq_true z.1).2.2
      rw [pi2_c, (bI_eq _).mp c3] at z1
      cases z1
    · have z1 := (bI_ne _).mp c3
      exact ⟨by rw [nbT_bit]; exact decide_eq_true ⟨hw, c2, by rw [pi2_c]; exact z1⟩, c⟩
theorem lp_alike2 {I : KI} {Q : KQ} {p u v n k : Nat} {kk : Int32 → Int32 → Prop} {vw : Nat → Nat} (hM : MdQ Q) (hp15 : p < 2 ^ 15) (hn6 : n ≤ 6) (hu : u < n) (hv : v < n) (hk : k < 2 ^ 31) (h7 : ∀ w, w < n → I 297 w = nI (vw w) ∧ vw w < 6) (hp : kk (nI (havT (nbT p u n) vw k n)) (nI (havT (nbT p v n) vw k n))) : ∀ d w, w + d = n → wp_X11_areAlike_L49 I Q 287 (nI u) (nI v) (nI p) (nI n) (nI k) kk (d + 1) (nI (havT (nbT p u n) vw k w)) (nI (havT (nbT p v n) vw k w)) (nI w) := by
  intro d
  induction d with
  | zero =>
    intro w hw
    have : w = n := by omega
    subst this
    unfold wp_X11_areAlike_L49
    exact br_t (nI_le (Nat.le_refl _) (by omega)) hp
  | succ d ih =>
    intro w hw
    have ih := ih (w + 1) (by omega)
    obtain ⟨w1, w2⟩ := h7 w (by omega)
    simp only [havT] at ih
    have hgo : ∀ x y : Int32, x = nI (if (nbT p u n).testBit w = true ∧ vw w = k then 1 else 0) → y = nI (if (nbT p v n).testBit w = true ∧ vw w = k then 1 else 0) → wp_X11_areAlike_L49 I Q 287 (nI u) (nI v) (nI p) (nI n) (nI k) kk (d + 1) (nI (havT (nbT p u n) vw k w) + x) (nI (havT (nbT p v n) vw k w) + y) (nI (w + 1)) := by
      intro x y hx hy
      rw [hx, hy, nI_add, nI_add]
      exact ih
    have hin : vp_in (nI w) 6 := vp_in_nI (by omega) (by decide)
    unfold wp_X11_areAlike_L49
    rw [hM.view, nI_clamp (n := w) (by omega), nI_1]
    refine br_f (nI_ge (by omega) (by omega)) ⟨hin, ?_⟩
    refine ms_see (vw := vw) hp15 hn6 hu (by omega) hk w1 w2 (fun z1 => ⟨hin, ?_⟩) (fun z1 => ⟨hin, ?_⟩)
    · exact ms_see (vw := vw) hp15 hn6 hv (by omega) hk w1 w2 (fun z2 => hgo _ _ (by rw [if_neg z1]; rfl) (by rw [if_neg z2]; rfl)) (fun z2 => hgo _ _ (by rw [if_neg z1]; rfl) (by rw [if_pos z2]; rfl))
    · exact ms_see (vw := vw) hp15 hn6 hv (by omega) hk w1 w2 (fun z2 => hgo _ _ (by rw [if_pos z1]; rfl) (by rw [if_neg z2]; rfl)) (fun z2 => hgo _ _ (by rw [if_pos z1]; rfl) (by rw [if_pos z2]; rfl))
theorem lp_alike1 {I : KI} {Q : KQ} {p u v n : Nat} {post : Int32 → Prop} {vw : Nat → Nat} (hM : MdQ Q) (hp15 : p < 2 ^ 15) (hn6 : n ≤ 6) (hu : u < n) (hv : v < n) (h7 : ∀ w, w < n → I 297 w = nI (vw w) ∧ vw w < 6) (hp : post (bI (alikeB p n vw u v))) : ∀ d k, k + d = n → wp_X11_areAlike_L33 I Q 287 (nI u) (nI v) (nI p) (nI n) post (d + 1) (bI (decide (vw u = vw v) && alB (fun k => decide (havT (nbT p u n) vw k n = havT (nbT p v n) vw k n)) k)) (nI k) := by
  intro d
  induction d with
  | zero =>
    intro k hk
    have : k = n := by omega
    subst this
    unfold wp_X11_areAlike_L33
    exact br_t (nI_le (Nat.le_refl _) (by omega)) ⟨bI_01 _, hp⟩
  | succ d ih =>
    intro k hk
    have ih := ih (k + 1) (by omega)
    have l1 := havT_le (nbT p u n) vw k n
    have l2 := havT_le (nbT p v n) vw k n
    simp only [alB] at ih
    rw [← Bool.and_assoc] at ih
    unfold wp_X11_areAlike_L33
    rw [nI_1]
    refine br_f (nI_ge (by omega) (by omega)) ⟨n + 1, lp_alike2 hM hp15 hn6 hu hv (by omega) h7 ?_ n 0 (by omega)⟩
    show (_ = 0 → _) ∧ _
    rw [nI_eq (by omega) (by omega)]
    generalize (decide (vw u = vw v) && alB (fun k => decide (havT (nbT p u n) vw k n = havT (nbT p v n) vw k n)) k) = b0 at ih ⊢
    refine ⟨fun c => ?_, fun c => ⟨fun c2 => ?_, fun c2 => ?_⟩⟩
    · rw [(bI_eq _).mp c] at ih; exact ih
    · rw [decide_eq_false c2, Bool.and_false] at ih; exact ih
    · rw [(bI_ne _).mp c, decide_eq_true c2] at ih; exact ih
theorem ms_areAlike {I : KI} {Q : KQ} {p u v n : Nat} {post : Int32 → Prop} {vw : Nat → Nat} (hM : MdQ Q) (h0 : I 288 0 = nI n) (hp15 : p < 2 ^ 15) (hn6 : n ≤ 6) (hu : u < n) (hv : v < n) (h7 : ∀ w, w < n → I 297 w = nI (vw w) ∧ vw w < 6) (hp : post (bI (alikeB p n vw u v))) : wp_X11_areAlike I Q 287 (nI u) (nI v) (nI p) post := by
  obtain ⟨u1, u2⟩ := h7 u hu
  obtain ⟨v1, v2⟩ := h7 v hv
  have hl := lp_alike1 hM hp15 hn6 hu hv h7 hp n 0 (by omega)
  simp only [alB, Bool.and_true] at hl
  unfold wp_X11_areAlike
  rw [hM.view, hM.now, tc0, h0, nI_clamp (n := u) (by omega), nI_clamp (n := v) (by omega), u1, v1, nI_eq (by omega) (by omega)]
  refine ⟨vp_in_nI (by omega) (by decide), vp_in_nI (by omega) (by decide), fun c => ⟨n + 1, ?_⟩, fun c => ⟨n + 1, ?_⟩⟩
  · rw [decide_eq_false c] at hl; exact hl
  · rw [decide_eq_true c] at hl; exact hl
theorem lp_findLike {Q : KQ} {p v n : Nat} {vw g : Nat → Nat} {kk : KI → Prop} (I0 : KI) (hM : MdQ Q) (h0 : I0 288 0 = nI n) (hp15 : p < 2 ^ 15) (hn6 : n ≤ 6) (hv : v < n) (h7 : ∀ w, w < n → I0 297 w = nI (vw w) ∧ vw w < 6) (hg : ∀ w, w < v → I0 298 w = nI (g w) ∧ g w < 6) : ∀ d i I, i + d = v → (∀ q, q ≠ 298 → I q = I0 q) → (∀ w, w ≠ v → I 298 w = I0 298 w) → I 298 v = -1 → (∀ I', (∀ q, q ≠ 298 → I' q = I0 q) → (∀ w, w ≠ v → I' 298 w = I0 298 w) → I' 298 v = (if fstT (fun u => alikeB p n vw u v) d i = v then -1 else nI (g (fstT (fun u => alikeB p n vw u v) d i))) → kk I') → wp_X11_laysViews_L83 Q 287 (nI p) (nI v) kk (d + 2) I (nI i) := by
  intro d
  induction d with
  | zero =>
    intro i I hi w1 w2 w3 hp
    have : i = v := by omega
    subst this
    unfold wp_X11_laysViews_L83
    refine br_t (nI_le (Nat.le_refl _) (by omega)) (hp I w1 w2 ?_)
    rw [w3]
    exact (if_pos rfl).symm
  | succ d ih =>
    intro i I hi w1 w2 w3 hp
    have ef := fstT_f (lk := fun u => alikeB p n vw u v) (d := d) (i := i)
    have et := fstT_t (lk := fun u => alikeB p n vw u v) (d := d) (i := i)
    have hiv : i < v := by omega
    unfold wp_X11_laysViews_L83
    rw [hM.viewThen, nI_clamp (n := v) (by omega), nI_clamp (n := i) (by omega), w3, nI_1]
    refine br_f (nI_ge (by omega) (by omega)) ⟨vp_in_nI (by omega) (by decide), fun c => absurd c (by decide), fun _ => ?_⟩
    refine ms_areAlike (vw := vw) hM (by rw [w1 288 (by decide)]; exact h0) hp15 hn6 (by omega) hv (fun w hw => by rw [w1 297 (by decide)]; exact h7 w hw) ⟨fun c => ⟨vp_in_nI (by omega) (by decide), ?_⟩, fun c => ⟨vp_in_nI (by omega) (by decide), vp_in_nI (by omega) (by decide), ?_⟩⟩
    · rw [ef ((bI_eq _).mp c)] at hp
      refine ih (i + 1) _ (by omega) (fun q hq => by rw [sti_ne _ _ _ hq]; exact w1 q hq) (fun w hw => by rw [sti_at, pk_un hw]; exact w2 w hw) (by rw [sti_at, pk_us]) hp
    · rw [et ((bI_ne _).mp c)] at hp
      obtain ⟨g1, g2⟩ := hg i hiv
      have e1 : I 298 i = nI (g i) := by rw [w2 i (by omega)]; exact g1
      have hfin : kk (sti I 298 v (nI (g i))) := hp _ (fun q hq => by rw [sti_ne _ _ _ hq]; exact w1 q hq) (fun w hw => by rw [sti_at, pk_un hw]; exact w2 w hw) (by rw [sti_at, pk_us, if_neg (by omega)])
      rw [e1]
      unfold wp_X11_laysViews_L83
      rw [hM.viewThen, nI_clamp (n := v) (by omega), sti_at, pk_us]
      exact ⟨fun _ => hfin, fun _ => ⟨vp_in_nI (by omega) (by decide), fun _ => hfin, fun c => absurd (nI_pos' (by omega)) c⟩⟩
theorem lp_lays66 {Q : KQ} {p n : Nat} {vw : Nat → Nat} {kk : KI → Int32 → Prop} (I0 : KI) (hM : MdQ Q) (h0 : I0 288 0 = nI n) (hp15 : p < 2 ^ 15) (hn6 : n ≤ 6) (h7 : ∀ w, w < n → I0 297 w = nI (vw w) ∧ vw w < 6) (hp : ∀ I, (∀ q, q ≠ 298 → I q = I0 q) → (∀ u, u < n → I 298 u = nI ((nxtT p n vw n).2 u)) → kk I (nI (nxtT p n vw n).1)) : ∀ d v I, v + d = n → (∀ q, q ≠ 298 → I q = I0 q) → (∀ u, u < v → I 298 u = nI ((nxtT p n vw v).2 u)) → wp_X11_laysViews_L66 Q 287 (nI n) (nI p) kk (d + 1) I (nI (nxtT p n vw v).1) (nI v) := by
  intro d
  induction d with
  | zero =>
    intro v I hv w1 w2
    have : v = n := by omega
    subst this
    unfold wp_X11_laysViews_L66
    exact br_t (nI_le (Nat.le_refl _) (by omega)) (hp I w1 w2)
  | succ d ih =>
    intro v I hv w1 w2
    have hx := nxtT_le p n vw v
    have hle := likT_le p n vw v
    unfold wp_X11_laysViews_L66
    rw [hM.viewThen, nI_clamp (n := v) (by omega), nI_1, nI_1]
    refine br_f (nI_ge (by omega) (by omega)) ⟨vp_in_nI (by omega) (by decide), v + 2, ?_⟩
    refine lp_findLike (vw := vw) (g := (nxtT p n vw v).2) (sti I 298 v (-1)) hM (by rw [sti_ne _ _ _ (by decide), w1 288 (by decide)]; exact h0) hp15 hn6 (by omega) (fun w hw => by rw [sti_ne _ _ _ (by decide), w1 297 (by decide)]; exact h7 w hw) (fun w hw => by rw [sti_at, pk_un (by omega)]; exact ⟨w2 w hw, by have := hx.2 w hw; omega⟩) v 0 _ (by omega) (fun _ _ => rfl) (fun _ _ => rfl) (by rw [sti_at, pk_us]) (fun I1 z1 z2 z3 => ⟨vp_in_nI (by omega) (by decide), ?_⟩)
    have z1' : ∀ q, q ≠ 298 → I1 q = I0 q := fun q hq => by rw [z1 q hq, sti_ne _ _ _ hq]; exact w1 q hq
    have z2' : ∀ u, u < v → I1 298 u = nI ((nxtT p n vw v).2 u) := fun u hu => by rw [z2 u (by omega), sti_at, pk_un (by omega)]; exact w2 u hu
    rw [z3]
    by_cases hl : likT p n vw v = v
    · have hl2 : fstT (fun u => alikeB p n vw u v) v 0 = v := hl
      rw [if_pos hl2]
      refine ⟨fun c => absurd c (by decide), fun _ => ⟨vp_in_nI (by omega) (by decide), ?_⟩⟩
      have := ih (v + 1) (sti I1 298 v (nI (nxtT p n vw v).1)) (by omega) (fun q hq => by rw [sti_ne _ _ _ hq]; exact z1' q hq) (fun u hu => ?_)
      · simp only [nxtT] at this
        rw [if_pos hl] at this
        exact this
      · simp only [nxtT]
        rw [if_pos hl, sti_at]
        show _ = nI (upk _ v _ u)
        by_cases huv : u = v
        · subst huv; rw [pk_us, upk_s]
        · rw [pk_un huv, upk_n huv]; exact z2' u (by omega)
    · have hl2 : ¬ fstT (fun u => alikeB p n vw u v) v 0 = v := hl
      have hg := hx.2 (likT p n vw v) (by omega)
      rw [if_neg hl2]
      refine ⟨fun _ => ?_, fun c => absurd (nI_pos' (show (nxtT p n vw v).2 (likT p n vw v) < 2 ^ 31 by omega)) c⟩
      have := ih (v + 1) I1 (by omega) z1' (fun u hu => ?_)
      · simp only [nxtT] at this
        rw [if_neg hl] at this
        exact this
      · simp only [nxtT]
        rw [if_neg hl]
        show _ = nI (upk _ v _ u)
        by_cases huv : u = v
        · subst huv; rw [upk_s, z3, if_neg hl2]; rfl
        · rw [upk_n huv]; exact z2' u (by omega)
theorem lp_lays9 {Q : KQ} {n : Nat} {kk : KI → Prop} (I0 : KI) (hM : MdQ Q) (hn6 : n ≤ 6) (hp : ∀ I, (∀ q, q ≠ 297 → I q = I0 q) → (∀ u, u < n → I 297 u = nI (if u = 0 then 0 else 1)) → kk I) : ∀ d v I, v + d = n → (∀ q, q ≠ 297 → I q = I0 q) → (∀ u, u < v → I 297 u = nI (if u = 0 then 0 else 1)) → wp_X11_laysViews_L9 Q 287 (nI n) kk (d + 1) I (nI v) := by
  intro d
  induction d with
  | zero =>
    intro v I hv w1 w2
    have : v = n := by omega
    subst this
    unfold wp_X11_laysViews_L9
    exact br_t (nI_le (Nat.le_refl _) (by omega)) (hp I w1 w2)
  | succ d ih =>
    intro v I hv w1 w2
    have hgo : ∀ x : Int32, x = nI (if v = 0 then 0 else 1) → wp_X11_laysViews_L9 Q 287 (nI n) kk (d + 1) (sti I 297 v x) (nI (v + 1)) := fun x hx => ih (v + 1) _ (by omega) (fun q hq => by rw [sti_ne _ _ _ hq]; exact w1 q hq) (fun u hu => by
      rw [sti_at]
      by_cases huv : u = v
      · subst huv; rw [pk_us]; exact hx
      · rw [pk_un huv]; exact w2 u (by omega))
    unfold wp_X11_laysViews_L9
    rw [hM.view, nI_clamp (n := v) (by omega), nI_1, nI_z (by omega)]
    exact br_f (nI_ge (by omega) (by omega)) ⟨fun c => ⟨vp_in_nI (by omega) (by decide), hgo _ (by rw [if_neg c]; rfl)⟩, fun c => ⟨vp_in_nI (by omega) (by decide), hgo _ (by rw [if_pos c]; rfl)⟩⟩
theorem lp_lays40 {Q : KQ} {m : Nat} {S : Snap} {post : Int32 → KI → Prop} (I0 : KI) (hM : MdQ Q) (hN : RowIs (I0 288) S) (hG : Gs S) (hr : S.1 4 < 2 ^ 30) (hm : m ≤ 9) (hp : ∀ I, (∀ q, q ≠ 297 → q ≠ 298 → I q = I0 q) → (∀ u, u < S.1 0 → I 297 u = nI ((behT S m).2 u)) → post (nI (behT S m).1) I) : ∀ d j I, j + d = m → (∀ q, q ≠ 297 → q ≠ 298 → I q = I0 q) → (∀ u, u < S.1 0 → I 297 u = nI ((behT S j).2 u)) → wp_X11_laysViews_L40 Q 287 (nI m) (nI (S.1 0)) post (d + 1) I (nI (behT S j).1) (nI j) := by
  have h6 := hG.1
  intro d
  induction d with
  | zero =>
    intro j I hj w1 w2
    have : j = m := by omega
    subst this
    unfold wp_X11_laysViews_L40
    exact br_t (nI_le (Nat.le_refl _) (by omega)) (hp I w1 w2)
  | succ d ih =>
    intro j I hj w1 w2
    have c3 : RowIs (I 288) S := by rw [w1 288 (by decide) (by decide)]; exact hN
    have hp15 := hG.p15 (i := (S.1 4 + j) / S.1 3 % S.1 6) (Nat.mod_lt _ (by have := hG.2.2.2.2.2.1; omega))
    unfold wp_X11_laysViews_L40
    rw [hM.now, hM.view, hM.viewThen, tc4, c3.r, nI_add, nI_1]
    refine br_f (nI_ge (by omega) (by omega)) (ms_linksOf hM c3 hG (by omega) ⟨S.1 0 + 1, ?_⟩)
    refine lp_lays66 (vw := (behT S j).2) I hM c3.n hp15 h6.2 (fun u hu => ⟨w2 u hu, behT_lt hG j u hu⟩) (fun I1 z1 z2 => ?_) (S.1 0) 0 I (by omega) (fun _ _ => rfl) (fun u hu => absurd hu (Nat.not_lt_zero u))
    refine ms_copies (i := 0) (j := 0) (by decide) (by omega) (by omega) (by decide) (by decide) ?_
    refine ih (j + 1) _ (by omega) (fun q q1 q2 => by rw [cpi_ne _ _ _ _ _ _ q1, z1 q q2]; exact w1 q q1 q2) (fun u hu => ?_)
    rw [cpi_in _ _ _ _ _ _ (Nat.zero_le u) (by omega), show 0 + (u - 0) = u by omega]
    exact z2 u hu
theorem ms_laysViews {I : KI} {Q : KQ} {m : Nat} {S : Snap} {post : Int32 → KI → Prop} (hM : MdQ Q) (hN : RowIs (I 288) S) (hG : Gs S) (hr : S.1 4 < 2 ^ 30) (hm : m ≤ 9) (hp : ∀ I', (∀ q, q ≠ 297 → q ≠ 298 → I' q = I q) → (∀ u, u < S.1 0 → I' 297 u = nI ((behT S m).2 u)) → post (nI (behT S m).1) I') : wp_X11_laysViews I Q 287 (nI m) post := by
  have h6 := hG.1
  unfold wp_X11_laysViews
  rw [hM.now, tc0, hN.n]
  refine ⟨S.1 0 + 1, lp_lays9 I hM h6.2 (fun I1 w1 w2 => ⟨m + 1, ?_⟩) (S.1 0) 0 I (by omega) (fun _ _ => rfl) (fun u hu => absurd hu (Nat.not_lt_zero u))⟩
  exact lp_lays40 I hM hN hG hr hm hp m 0 I1 (by omega) (fun q q1 _ => w1 q q1) w2
theorem op_views {I : KI} {J : KJ} {Q : KQ} {b : Nat} {x1 : Int32} {post : Int32 → KI → Prop} (h : Rel I J Q b) (hb31 : b < 2 ^ 30) (hp : ∀ r I4, (∀ p2 : Int32 → KI → Prop, (∀ I5, Rel I5 J Q b → p2 r I5) → wp_X11_views I4 Q 287 x1 p2) → post r I4) : wp_X10_views I Q 0 x1 post := by
  obtain ⟨hR, π, hP, S, hs, m, hC⟩ := id h
  obtain ⟨c1, c2, c3, c4, ⟨a, ha, c5, c6⟩, hG, hb, hH⟩ := hC
  obtain ⟨⟨a0, a1, a2, a3, a4, a5, a6, a7, a8, a9, a10⟩, ⟨q1, q2, q3, q4⟩, ⟨d1, d2, d3, d4, d5, -⟩, -, hM⟩ := id hR.1
  unfold wp_X10_views
  rw [a0, a7]
  rcases inCase x1 0 9 with ⟨j, hj0, hj, rfl⟩ | hno
  · refine br_f (nI_pos (by omega)) (br_t (nI_le (b := 9) hj (by decide)) (sp_behind d4 d5 q1 c1 hG (by omega) hj (fun I1 w1 w2 => hp _ _ (fun p2 h2 => ?_))))
    unfold wp_X11_views
    refine ms_in1 (lo := 0) (hi := 9) hj0 hj (by decide) ⟨fun c => absurd c (by decide), fun _ => ms_laysViews hM (by rw [w1 288 (by decide) (by decide)]; exact c3) hG (by omega) hj (fun I2 z1 z2 => h2 I2 (h.fr ⟨fun q hq => ?_, ?_, fun i hi => ?_⟩))⟩
    · rw [z1 q (by omega) (by omega), w1 q (by omega) (by omega)]
    · rw [z1 274 (by decide) (by decide), w1 274 (by decide) (by decide)]
    · rw [z1 287 (by decide) (by decide), w1 287 (by decide) (by decide)]
  · have hbad : post (-1) I := hp _ _ (fun p2 h2 => by
      unfold wp_X11_views
      exact ms_in0 (lo := 0) (hi := 9) hno (by decide) (by decide) ⟨fun _ => h2 I h, fun c => absurd rfl c⟩)
    exact ⟨fun _ => hbad, fun c => ⟨fun c2 => (rng_no (lo := 0) (hi := 9) hno (by decide) (by decide) c c2).elim, fun _ => hbad⟩⟩
theorem op_view {I : KI} {J : KJ} {Q : KQ} {b : Nat} {x1 x2 : Int32} {post : Int32 → KI → Prop} (h : Rel I J Q b) (hb31 : b < 2 ^ 30) (hp : ∀ r I4, (∀ p2 : Int32 → KI → Prop, (∀ I5, Rel I5 J Q b → p2 r I5) → wp_X11_view I4 Q 287 x1 x2 p2) → post r I4) : wp_X10_view I Q 0 x1 x2 post := by
  obtain ⟨hR, π, hP, S, hs, m, hC⟩ := id h
  obtain ⟨c1, c2, c3, c4, ⟨a, ha, c5, c6⟩, hG, hb, hH⟩ := hC
  obtain ⟨⟨a0, a1, a2, a3, a4, a5, a6, a7, a8, a9, a10⟩, ⟨q1, q2, q3, q4⟩, ⟨d1, d2, d3, d4, d5, -⟩, -, hM⟩ := id hR.1
  unfold wp_X10_view
  rw [a0, a7, d4]
  rcases inCase x1 0 9 with ⟨j, hj0, hj, rfl⟩ | hno
  · refine br_f (nI_pos (by omega)) (br_f (nI_nlt (b := j) (a := 9) hj (by decide)) ?_)
    rcases nodeCase x2 (S.1 0) with ⟨v, hv, rfl⟩ | hnov
    · have hv6 : v < 6 := by have := hG.1; omega
      refine sp_node1 c1 hG hv ⟨fun _ => sp_behind d4 d5 q1 c1 hG (by omega) hj (fun I1 w1 w2 => ⟨vp_in_nI hv6 (by decide), hp _ _ (fun p2 h2 => ?_)⟩), fun c => absurd c (by decide)⟩
      have c3' : RowIs (I1 288) S := by rw [w1 288 (by decide) (by decide)]; exact c3
      unfold wp_X11_view
      refine ms_in1 (lo := 0) (hi := 9) hj0 hj (by decide) ⟨fun c => absurd c (by decide), fun _ => ms_node1 hM c3' hG hv ⟨fun _ => ms_laysViews hM c3' hG (by omega) hj (fun I2 z1 z2 => ⟨vp_in_nI hv6 (by decide), ?_⟩), fun c => absurd c (by decide)⟩⟩
      rw [hM.view, nI_clamp (n := v) (by omega), z2 v hv, ← w2 v hv]
      have := h2 I2 (h.fr ⟨fun q hq => by rw [z1 q (by omega) (by omega), w1 q (by omega) (by omega)], by rw [z1 274 (by decide) (by decide), w1 274 (by decide) (by decide)], fun i hi => by rw [z1 287 (by decide) (by decide), w1 287 (by decide) (by decide)]⟩)
      rw [nI_clamp (n := v) (by omega)] at this
      exact this
    · refine sp_node0 c1 hG hnov ⟨fun c => absurd rfl c, fun _ => hp _ _ (fun p2 h2 => ?_)⟩
      unfold wp_X11_view
      exact ms_in1 (lo := 0) (hi := 9) hj0 hj (by decide) ⟨fun c => absurd c (by decide), fun _ => ms_node0 hM c3 hG hnov ⟨fun c => absurd rfl c, fun _ => h2 I h⟩⟩
  · have hbad : post (-1) I := hp _ _ (fun p2 h2 => by
      unfold wp_X11_view
      exact ms_in0 (lo := 0) (hi := 9) hno (by decide) (by decide) ⟨fun _ => h2 I h, fun c => absurd rfl c⟩)
    refine ⟨fun _ => hbad, fun c => ⟨fun _ => hbad, fun c2 => (rng_no (lo := 0) (hi := 9) hno (by decide) (by decide) c ?_).elim⟩⟩
    rw [Int32.le_iff_toInt_le]
    rw [Int32.lt_iff_toInt_lt] at c2
    have : (nI 9).toInt = 9 := rfl
    have h9 : (9 : Int32).toInt = 9 := rfl
    omega
