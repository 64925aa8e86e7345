/-! PURE, 8: a round of the class -/
def setC (S : Snap) (i x : Nat) : Snap := (upk S.1 i x, S.2)
def setP (S : Snap) (v : Nat) (f : Nat → Nat) : Snap := (S.1, S.2.1, upk S.2.2.1 v f, S.2.2.2)
def setG (S : Snap) (v x : Nat) : Snap := (S.1, S.2.1, S.2.2.1, upk S.2.2.2 v x)
theorem NetIs.stC {I : KI} {B i x : Nat} {S : Snap} (h : NetIs I B S) (hi : 1 ≤ i) (hi6 : i < 6) : NetIs (sti I B (3 + i) (nI x)) B (setC S i x) := by
  obtain ⟨h1, h2, h3, h4, h5⟩ := h
  have e0 : (setC S i x).1 0 = S.1 0 := upk_n (by omega)
  have e6 : (setC S i x).1 6 = S.1 6 := upk_n (by omega)
  refine ⟨fun j hj => ?_, by rw [sti_ne _ _ _ (by omega), e6]; exact h2, fun j hj => by rw [sti_ne _ _ _ (by omega), e0]; rw [e6] at hj; exact h3 j hj, fun v hv t ht => by rw [sti_ne _ _ _ (by omega)]; exact h4 v hv t ht, fun v hv => by rw [sti_ne _ _ _ (by omega)]; exact h5 v hv⟩
  rw [sti_at]
  by_cases hji : j = i
  · subst hji
    rw [pk_us]
    show nI x = nI (upk S.1 j x j)
    rw [upk_s]
  · rw [pk_un (by omega)]
    show I B (3 + j) = nI (upk S.1 i x j)
    rw [upk_n hji]
    exact h1 j hj
theorem NetIs.stG {I : KI} {B v x : Nat} {S : Snap} (h : NetIs I B S) (hv : v < 6) : NetIs (sti I (B + 4) v (nI x)) B (setG S v x) := by
  obtain ⟨h1, h2, h3, h4, h5⟩ := h
  refine ⟨fun j hj => by rw [sti_ne _ _ _ (by omega)]; exact h1 j hj, by rw [sti_ne _ _ _ (by omega)]; exact h2, fun j hj => by rw [sti_ne _ _ _ (by omega)]; exact h3 j hj, fun u hu t ht => by rw [sti_ne _ _ _ (by omega)]; exact h4 u hu t ht, fun u hu => ?_⟩
  rw [sti_at]
  show _ = nI (upk S.2.2.2 v x u)
  by_cases huv : u = v
  · subst huv; rw [pk_us, upk_s]
  · rw [pk_un huv, upk_n huv]
    exact h5 u hu
theorem NetIs.stP {I : KI} {B v : Nat} {f : Nat → Nat} {g : Nat → Int32} {S : Snap} (h : NetIs I B S) (hv : v < 6) (hg : ∀ t, t < 8 → g t = nI (f t)) : NetIs (upk I (B + 6 + 2 * v) g) B (setP S v f) := by
  obtain ⟨h1, h2, h3, h4, h5⟩ := h
  refine ⟨fun j hj => by rw [upk_n (by omega)]; exact h1 j hj, by rw [upk_n (by omega)]; exact h2, fun j hj => by rw [upk_n (by omega)]; exact h3 j hj, fun u hu t ht => ?_, fun u hu => by rw [upk_n (by omega)]; exact h5 u hu⟩
  show _ = nI (upk S.2.2.1 v f u t)
  by_cases huv : u = v
  · subst huv
    rw [upk_s, upk_s]
    exact hg t ht
  · rw [upk_n (by omega), upk_n huv]
    exact h4 u hu t ht
def newP (S : Snap) (v : Nat) : Nat → Nat := (hearL (sndL S (S.1 2)) (nbT (S.2.1 (S.1 4 / S.1 3 % S.1 6)) v (S.1 0)) (S.1 0)).foldl adS (S.2.2.1 v)
def newG (S : Snap) (v : Nat) : Nat := S.2.2.2 v ||| (if S.1 2 = 0 then (sndL S (S.1 2) v).getD 0 0 else 0)
/-- a round, the nodes below v done -/
def stpT (S : Snap) : Nat → Snap
  | 0 => setC S 5 (drwT S (S.1 2) (S.1 0))
  | v + 1 => setP (setG (stpT S v) v (newG S v)) v (newP S v)
def stepS (S : Snap) : Snap := setC (stpT S (S.1 0)) 4 (S.1 4 + 1)
theorem stpT_sc (S : Snap) : ∀ v i, i ≠ 5 → (stpT S v).1 i = S.1 i := by
  intro v
  induction v with
  | zero => intro i hi; exact upk_n hi
  | succ v ih => intro i hi; exact ih i hi
theorem stpT_d (S : Snap) : ∀ v, (stpT S v).1 5 = drwT S (S.1 2) (S.1 0) := by
  intro v
  induction v with
  | zero =>
    show upk S.1 5 (drwT S (S.1 2) (S.1 0)) 5 = _
    exact upk_s
  | succ v ih => exact ih
theorem stpT_pl (S : Snap) : ∀ v, (stpT S v).2.1 = S.2.1 := by
  intro v
  induction v with
  | zero => rfl
  | succ v ih => exact ih
theorem stpT_sp (S : Snap) : ∀ v u, (stpT S v).2.2.1 u = if u < v then newP S u else S.2.2.1 u := by
  intro v
  induction v with
  | zero => intro u; rw [if_neg (Nat.not_lt_zero u)]; rfl
  | succ v ih =>
    intro u
    show upk (stpT S v).2.2.1 v (newP S v) u = _
    by_cases huv : u = v
    · subst huv
      rw [upk_s, if_pos (by omega)]
    · rw [upk_n huv, ih u]
      by_cases h : u < v
      · rw [if_pos h, if_pos (by omega)]
      · rw [if_neg h, if_neg (by omega)]
theorem stpT_gn (S : Snap) : ∀ v u, (stpT S v).2.2.2 u = if u < v then newG S u else S.2.2.2 u := by
  intro v
  induction v with
  | zero => intro u; rw [if_neg (Nat.not_lt_zero u)]; rfl
  | succ v ih =>
    intro u
    show upk (stpT S v).2.2.2 v (newG S v) u = _
    by_cases huv : u = v
    · subst huv
      rw [upk_s, if_pos (by omega)]
    · rw [upk_n huv, ih u]
      by_cases h : u < v
      · rw [if_pos h, if_pos (by omega)]
      · rw [if_neg h, if_neg (by omega)]
theorem getD_lt {xs : List Nat} {n : Nat} (h : ∀ x ∈ xs, x < 2 ^ n) (j : Nat) : xs.getD j 0 < 2 ^ n := by
  by_cases hj : j < xs.length
  · have : xs.getD j 0 = xs[j] := by simp [hj]
    rw [this]
    exact h _ (List.getElem_mem hj)
  · have : xs.getD j 0 = 0 := by simp [Nat.le_of_not_lt hj]
    rw [this]
    exact Nat.two_pow_pos n
theorem newP_ok {S : Snap} (hG : Gs S) {v : Nat} (hv : v < 6) : Gb (newP S v) (S.1 1) ∧ cntS (newP S v) = 2 ^ rk (newP S v) := by
  have h := hG.2.2.2.2.2.2.2.1 v hv
  have hl := hearL_lt (L := sndL S (S.1 2)) (s := nbT (S.2.1 (S.1 4 / S.1 3 % S.1 6)) v (S.1 0)) (k := S.1 1) (n := S.1 0) (fun u hu => (sndL_lt hG (S.1 2) (by have := hG.1; omega)).1) (S.1 0) (Nat.le_refl _)
  exact ⟨(Gb_fold hG.2.1.2 _ _ h.1 hl).1, cnt_fold hG.2.1.2 _ _ h.1 hl h.2⟩
theorem newG_lt {S : Snap} (hG : Gs S) {v : Nat} (hv : v < 6) : newG S v < 2 ^ S.1 1 := by
  refine Nat.or_lt_two_pow (hG.2.2.2.2.2.2.2.2 v hv) ?_
  split
  · exact getD_lt (sndL_lt hG (S.1 2) hv).1 0
  · exact Nat.two_pow_pos _
theorem Gs_stp {S : Snap} (hG : Gs S) (v : Nat) : Gs (stpT S v) := by
  have e := stpT_sc S v
  obtain ⟨g1, g2, g3, g4, g5, g6, g7, g8, g9⟩ := id hG
  unfold Gs
  rw [e 0 (by omega), e 1 (by omega), e 2 (by omega), e 3 (by omega), e 6 (by omega), stpT_d, stpT_pl]
  refine ⟨g1, g2, g3, g4, drwT_lt hG _ _, g6, g7, fun u hu => ?_, fun u hu => ?_⟩
  · rw [stpT_sp]
    split
    · exact newP_ok hG hu
    · exact g8 u hu
  · rw [stpT_gn]
    split
    · exact newG_lt hG hu
    · exact g9 u hu
theorem Gs.stC {S : Snap} (hG : Gs S) (x : Nat) : Gs (setC S 4 x) := hG
theorem Gs_step {S : Snap} (hG : Gs S) : Gs (stepS S) := Gs.stC (Gs_stp hG (S.1 0)) _
theorem lp_pass {Q : KQ} {R B : Nat} {S : Snap} {post : KI → Prop} (I0 : KI) (hR : RndQ Q R) (hQ : NetQ Q B) (hG : Gs S) (hRB : R + 4 < B ∨ B + 16 < R) (hr : S.1 4 + 1 < 2 ^ 31) (hp : ∀ I', (∀ k, (k < B ∨ B + 17 ≤ k) → I' k = I0 k) → NetIs I' B (stepS S) → post I') : ∀ d v I, v + d = S.1 0 → (∀ k, (k < B ∨ B + 17 ≤ k) → I k = I0 k) → NetIs I B (stpT S v) → SentIs I R (sndL S (S.1 2)) (S.1 0) → wp_X5_pass_L19 Q R B post (d + 1) I (nI v) := by
  have hn := hG.1
  have hk := hG.2.1
  intro d
  induction d with
  | zero =>
    intro v I hv q1 q2 q3
    have : v = S.1 0 := by omega
    subst this
    unfold wp_X5_pass_L19
    rw [show I B 3 = nI (S.1 0) from (q2.1 0 (by omega)).trans (by rw [stpT_sc S _ 0 (by omega)]), show I B 7 = nI (S.1 4) from (q2.1 4 (by omega)).trans (by rw [stpT_sc S _ 4 (by omega)])]
    refine br_t (nI_le (Nat.le_refl _) (by omega)) ?_
    rw [nI_1, pk_andN (by omega) 31 (by decide), Nat.mod_eq_of_lt hr]
    refine hp _ (fun k hk => ?_) ?_
    · rw [sti_ne _ _ _ (by omega)]; exact q1 k hk
    · exact q2.stC (i := 4) (by omega) (by omega)
  | succ d ih =>
    intro v I hv q1 q2 q3
    have hv6 : v < 6 := by omega
    have hvn : v < S.1 0 := by omega
    have hGv := Gs_stp hG v
    unfold wp_X5_pass_L19
    rw [show I B 3 = nI (S.1 0) from (q2.1 0 (by omega)).trans (by rw [stpT_sc S _ 0 (by omega)]), show I B 5 = nI (S.1 2) from (q2.1 2 (by omega)).trans (by rw [stpT_sc S _ 2 (by omega)])]
    refine br_f (nI_ge (by omega) (by omega)) ⟨vp_in_nI hv6 (by decide), ?_⟩
    rw [hQ.2.2.2.1, hQ.2.2.1, nI_clamp (n := v) (by omega), hQ.2.2.2.2.1 v hv6]
    -- both ways come to the same
    have main : ∀ x : Nat, x = newG S v → wp_X1_neighbours (sti I (B + 4) v (nI x)) Q B (sti I (B + 4) v (nI x) B 7) (nI v) (fun r => wp_X5_deliver (sti I (B + 4) v (nI x)) Q R B (B + 5 + 2 * v) r (fun _ I9 => wp_X5_pass_L19 Q R B post (d + 1) I9 (nI v + 1))) := by
      intro x hx
      have hN1 : NetIs (sti I (B + 4) v (nI x)) B (setG (stpT S v) v x) := q2.stG hv6
      have hG1 : Gs (setG (stpT S v) v x) := by
        obtain ⟨g1, g2, g3, g4, g5, g6, g7, g8, g9⟩ := id hGv
        refine ⟨g1, g2, g3, g4, g5, g6, g7, g8, fun u hu => ?_⟩
        show upk (stpT S v).2.2.2 v x u < 2 ^ (stpT S v).1 1
        by_cases huv : u = v
        · subst huv
          rw [upk_s, hx, stpT_sc S _ 1 (by omega)]
          exact newG_lt hG hu
        · rw [upk_n huv]; exact g9 u hu
      rw [show sti I (B + 4) v (nI x) B 7 = nI (S.1 4) from (hN1.1 4 (by omega)).trans (by show nI ((stpT S v).1 4) = _; rw [stpT_sc S _ 4 (by omega)])]
      refine sp_neighbours hQ hN1 hG1 (by omega) hv6 ?_
      show wp_X5_deliver _ Q R B _ (nI (nbT ((stpT S v).2.1 (S.1 4 / (stpT S v).1 3 % (stpT S v).1 6)) v ((stpT S v).1 0))) _
      rw [stpT_sc S _ 3 (by omega), stpT_sc S _ 6 (by omega), stpT_sc S _ 0 (by omega), stpT_pl]
      refine sp_deliver (L := sndL S (S.1 2)) (f := S.2.2.1 v) (k := S.1 1) (n := S.1 0) hR (hQ.2.2.2.2.2 v hv6) (by omega) (by omega) (by omega) hk.2 hn.2 (Nat.lt_of_lt_of_le (nbT_lt _ _ _) (Nat.pow_le_pow_right (by omega) (by omega))) ((hN1.1 0 (by omega)).trans (by show nI ((stpT S v).1 0) = _; rw [stpT_sc S _ 0 (by omega)])) ((hN1.1 1 (by omega)).trans (by show nI ((stpT S v).1 1) = _; rw [stpT_sc S _ 1 (by omega)])) (fun u hu => ?_) (fun u hu => (sndL_lt hG (S.1 2) (by omega)).1) (hG.2.2.2.2.2.2.2.1 v hv6).1 (fun t ht => ?_) (fun g2 h1 _ => ?_)
      · obtain ⟨s1, s2, s3⟩ := q3 u hu
        exact ⟨by rw [sti_ne _ _ _ (by omega)]; exact s1, s2, fun j hj => by rw [sti_ne _ _ _ (by omega)]; exact s3 j hj⟩
      · rw [hN1.2.2.2.1 v hv6 t ht]
        show nI ((stpT S v).2.2.1 v t) = _
        rw [stpT_sp, if_neg (Nat.lt_irrefl v)]
      · rw [nI_1]
        refine ih (v + 1) _ (by omega) (fun k hk => ?_) ?_ (fun u hu => ?_)
        · rw [upk_n (by omega), sti_ne _ _ _ (by omega)]; exact q1 k hk
        · have := hN1.stP (f := newP S v) hv6 h1
          rw [hx] at this
          rw [hx]
          exact this
        · obtain ⟨s1, s2, s3⟩ := q3 u hu
          exact ⟨by rw [upk_n (by omega), sti_ne _ _ _ (by omega)]; exact s1, s2, fun j hj => by rw [upk_n (by omega), sti_ne _ _ _ (by omega)]; exact s3 j hj⟩
    have hgone : I (B + 4) v = nI (S.2.2.2 v) := (q2.2.2.2.2 v hv6).trans (by rw [stpT_gn, if_neg (Nat.lt_irrefl v)])
    refine ⟨fun c => ⟨vp_in_nI hv6 (by decide), vp_in_nI hv6 (by decide), ?_⟩, fun c => ?_⟩
    · have hm : ¬ S.1 2 = 0 := fun q => c (by rw [q]; rfl)
      have e : I (B + 4) v ||| (0 : Int32) = nI (newG S v) := by
        rw [hgone, show nI (S.2.2.2 v) ||| (0 : Int32) = nI (S.2.2.2 v ||| 0) from ni_or _ 0]
        simp [newG, hm]
      rw [e]
      exact main _ rfl
    · have hm := (nI_z (by have := hG.2.2.1; omega)).mp c
      refine sp_only hR hn.2 q3 hvn ⟨vp_in_nI hv6 (by decide), vp_in_nI hv6 (by decide), ?_⟩
      have e : I (B + 4) v ||| nI ((sndL S (S.1 2) v).getD 0 0) = nI (newG S v) := by
        rw [hgone, ni_or]
        simp [newG, hm]
      rw [e]
      exact main _ rfl
theorem sp_pass {I : KI} {Q : KQ} {R B : Nat} {S : Snap} {post : KI → Prop} (hR : RndQ Q R) (hQ : NetQ Q B) (hN : NetIs I B S) (hG : Gs S) (hRB : R + 4 < B ∨ B + 16 < R) (hr : S.1 4 + 1 < 2 ^ 31) (hp : ∀ I', (∀ k, (k < B ∨ B + 17 ≤ k) → k ≠ R → k ≠ R + 1 → k ≠ R + 2 → I' k = I k) → NetIs I' B (stepS S) → post I') : wp_X5_pass I Q R B post := by
  have hm := hG.2.2.1
  unfold wp_X5_pass
  rw [show I B 5 = nI (S.1 2) from hN.1 2 (by omega)]
  refine sp_prepare hR hQ hN hG hRB hm (by omega) (fun I1 w1 w2 w3 => ⟨S.1 0 + 1, ?_⟩)
  rw [w2]
  have hN1 : NetIs I1 B S := hN.fr (fun k h1 h2 => w1 k (by omega) (by omega) (by omega))
  refine lp_pass (sti I1 B 8 (nI (drwT S (S.1 2) (S.1 0)))) hR hQ hG hRB hr (fun I' z1 z2 => hp I' (fun k h1 h2 h3 h4 => ?_) z2) (S.1 0) 0 _ (by omega) (fun _ _ => rfl) (hN1.stC (i := 5) (by omega) (by omega)) (fun u hu => ?_)
  · rw [z1 k h1, sti_ne _ _ _ (by omega)]
    exact w1 k h2 h3 h4
  · obtain ⟨s1, s2, s3⟩ := w3 u hu
    exact ⟨by rw [sti_ne _ _ _ (by omega)]; exact s1, s2, fun j hj => by rw [sti_ne _ _ _ (by omega)]; exact s3 j hj⟩
/-- rounds, m at most, until all know all: how many, and what is then -/
def runT (S : Snap) : Nat → Nat × Snap
  | 0 => (0, S)
  | m + 1 => if fulT S (S.1 0) = S.1 0 then (0, S) else ((runT (stepS S) m).1 + 1, (runT (stepS S) m).2)
theorem stepS_4 (S : Snap) : (stepS S).1 4 = S.1 4 + 1 := by
  show upk (stpT S (S.1 0)).1 4 (S.1 4 + 1) 4 = _
  exact upk_s
theorem stepS_0 (S : Snap) : (stepS S).1 0 = S.1 0 := by
  show upk (stpT S (S.1 0)).1 4 (S.1 4 + 1) 0 = _
  rw [upk_n (by decide)]
  exact stpT_sc S _ 0 (by omega)
theorem lp_run {Q : KQ} {R B m : Nat} (hR : RndQ Q R) (hQ : NetQ Q B) (hRB : R + 4 < B ∨ B + 16 < R) (hm : m < 2 ^ 30) {post : Int32 → KI → Prop} (I0 : KI) : ∀ d i c I S, i + d = m → NetIs I B S → Gs S → S.1 4 + d < 2 ^ 31 → (∀ k, (k < B ∨ B + 17 ≤ k) → k ≠ R → k ≠ R + 1 → k ≠ R + 2 → I k = I0 k) → (∀ I', (∀ k, (k < B ∨ B + 17 ≤ k) → k ≠ R → k ≠ R + 1 → k ≠ R + 2 → I' k = I0 k) → NetIs I' B (runT S d).2 → Gs (runT S d).2 → post (nI (c + (runT S d).1)) I') → wp_X5_passUntilFull_L5 Q R B (nI m) post (d + 1) I (nI c) (nI i) := by
  intro d
  induction d with
  | zero =>
    intro i c I S hi hN hG hr hf hp
    have : i = m := by omega
    subst this
    unfold wp_X5_passUntilFull_L5
    exact br_t (nI_le (Nat.le_refl _) (by omega)) (hp I hf hN hG)
  | succ d ih =>
    intro i c I S hi hN hG hr hf hp
    unfold wp_X5_passUntilFull_L5
    refine br_f (nI_ge (by omega) (by omega)) (sp_allFull hQ hN hG ⟨fun q => ?_, fun q => ?_⟩)
    · have hfull := of_decide_eq_true ((bI_ne _).mp q)
      have e : runT S (d + 1) = (0, S) := by simp [runT, hfull]
      rw [e] at hp
      exact hp I hf hN hG
    · have hnf := of_decide_eq_false ((bI_eq _).mp q)
      have e : runT S (d + 1) = ((runT (stepS S) d).1 + 1, (runT (stepS S) d).2) := by simp [runT, hnf]
      rw [e] at hp
      refine sp_pass hR hQ hN hG hRB (by omega) (fun I1 w1 w2 => ?_)
      rw [nI_1, nI_1]
      refine ih (i + 1) (c + 1) I1 (stepS S) (by omega) w2 (Gs_step hG) (by rw [stepS_4]; omega) (fun k h1 h2 h3 h4 => by rw [w1 k h1 h2 h3 h4]; exact hf k h1 h2 h3 h4) (fun I' z1 z2 z3 => ?_)
      have := hp I' z1 z2 z3
      rw [show c + 1 + (runT (stepS S) d).1 = c + ((runT (stepS S) d).1 + 1) by omega]
      exact this
theorem sp_run {I : KI} {Q : KQ} {R B m : Nat} {S : Snap} {post : Int32 → KI → Prop} (hR : RndQ Q R) (hQ : NetQ Q B) (hRB : R + 4 < B ∨ B + 16 < R) (hm : m < 2 ^ 30) (hN : NetIs I B S) (hG : Gs S) (hr : S.1 4 + m < 2 ^ 31) (hp : ∀ I', (∀ k, (k < B ∨ B + 17 ≤ k) → k ≠ R → k ≠ R + 1 → k ≠ R + 2 → I' k = I k) → NetIs I' B (runT S m).2 → Gs (runT S m).2 → post (nI (runT S m).1) I') : wp_X5_passUntilFull I Q R B (nI m) post := ⟨m + 1, lp_run hR hQ hRB hm I m 0 0 I S (by omega) hN hG hr (fun _ _ _ _ _ => rfl) (fun I' z1 z2 z3 => by rw [Nat.zero_add]; exact hp I' z1 z2 z3)⟩
