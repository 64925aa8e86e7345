/-! PURE, 34: texts, as the class reads them -/
def TbC (I : KI) (t : Nat → Nat) (tm n : Nat) : Prop := tm ≤ 90 ∧ I 274 2 = nI tm ∧ I 274 4 = nI n ∧ ∀ j, j < tm → I 275 j = nI (t j) ∧ 32 ≤ t j ∧ t j ≤ 126
def CsI (I0 I : KI) (net p n i : Nat) : Prop := (∀ q, q ≠ 274 → q ≠ 277 → I q = I0 q) ∧ (∀ j, j ≠ 3 → I 274 j = I0 274 j) ∧ I 274 3 = nI i ∧ RowL (I 277) net p n ∧ ∀ x, x < 6 * net → I 277 x = I0 277 x
theorem CsI.tb {I0 I : KI} {net p n i tm : Nat} {t : Nat → Nat} (h : CsI I0 I net p n i) (hb : TbC I0 t tm n) : TbC I t tm n := by
  obtain ⟨h1, h2, h3, h4, h5⟩ := h
  obtain ⟨b1, b2, b3, b4⟩ := hb
  exact ⟨b1, by rw [h2 2 (by decide)]; exact b2, by rw [h2 4 (by decide)]; exact b3, fun j hj => by rw [h1 275 (by decide) (by decide)]; exact b4 j hj⟩
theorem CsI.to {I0 I : KI} {net p n i : Nat} (h : CsI I0 I net p n i) (j : Nat) : CsI I0 (sti I 274 3 (nI j)) net p n j := by
  obtain ⟨h1, h2, h3, h4, h5⟩ := h
  exact ⟨fun q q1 q2 => by rw [sti_ne _ _ _ q1]; exact h1 q q1 q2, fun x hx => by rw [sti_at, pk_un hx]; exact h2 x hx, by rw [sti_at, pk_us], by rw [sti_ne _ _ _ (by decide)]; exact h4, fun x hx => by rw [sti_ne _ _ _ (by decide)]; exact h5 x hx⟩
theorem CsI.up {I0 I : KI} {net p n i : Nat} (h : CsI I0 I net p n i) : CsI I0 (sti I 274 3 (I 274 3 + 1)) net p n (i + 1) := by
  rw [h.2.2.1, nI_1]
  exact h.to (i + 1)
theorem CsI.link {I0 I : KI} {net p p' n i : Nat} {g : Nat → Int32} (h : CsI I0 I net p n i) (hg : RowL g net p' n) (hf : ∀ j, (j < 6 * net ∨ 6 * net + 6 ≤ j) → g j = I 277 j) : CsI I0 (upk I 277 g) net p' n i := by
  obtain ⟨h1, h2, h3, h4, h5⟩ := h
  exact ⟨fun q q1 q2 => by rw [upk_n q2]; exact h1 q q1 q2, fun x hx => by rw [upk_n (by decide)]; exact h2 x hx, by rw [upk_n (by decide)]; exact h3, by rw [upk_s]; exact hg, fun x hx => by rw [upk_s, hf x (Or.inl hx)]; exact h5 x hx⟩
theorem lp_ahead {I0 : KI} {Q : KQ} {net p n tm : Nat} {t : Nat → Nat} {kk : KI → Prop} (h7 : rq Q 274 0 = 275) (hb : TbC I0 t tm n) : ∀ d i I, i + d = tm → CsI I0 I net p n i → (∀ I', CsI I0 I' net p n (skT t d i) → kk I') → wp_X8_ahead_L0 Q 274 kk (d + 1) I := by
  intro d
  induction d with
  | zero =>
    intro i I hi h hp
    obtain ⟨b1, b2, b3, b4⟩ := h.tb hb
    unfold wp_X8_ahead_L0
    rw [b2, h.2.2.1]
    exact br_t (nI_le (by omega) (by omega)) (hp I h)
  | succ d ih =>
    intro i I hi h hp
    obtain ⟨b1, b2, b3, b4⟩ := h.tb hb
    obtain ⟨c1, c2, c3⟩ := b4 i (by omega)
    have hup := h.up
    unfold wp_X8_ahead_L0
    rw [b2, h7]
    rw [h.2.2.1] at hup ⊢
    rw [nI_clamp (n := i) (by omega), c1, show (nI (t i) = (32 : Int32)) = (t i = 32) from propext (nI_eq (b := 32) (by omega) (by decide))]
    refine br_f (nI_ge (by omega) (by omega)) ⟨vp_in_nI (by omega) (by decide), fun c => ?_, fun c => ?_⟩
    · rw [skT_f c] at hp
      exact hp I h
    · rw [skT_t c] at hp
      exact ih (i + 1) _ (by omega) hup hp
theorem sp_ahead {I0 I : KI} {Q : KQ} {net p n i tm : Nat} {t : Nat → Nat} {post : Int32 → KI → Prop} (h7 : rq Q 274 0 = 275) (hb : TbC I0 t tm n) (h : CsI I0 I net p n i) (hi : i ≤ tm) (hp : ∀ I', CsI I0 I' net p n (skB t tm i) → post (chI (ahT t tm i)) I') : wp_X8_ahead I Q 274 post := by
  unfold wp_X8_ahead
  refine ⟨tm - i + 1, lp_ahead h7 hb (tm - i) i I (by omega) h (fun I' h' => ?_)⟩
  have hp := hp I' h'
  obtain ⟨b1, b2, b3, b4⟩ := h'.tb hb
  have hle := skB_le (t := t) hi
  have e3 : I' 274 3 = nI (skB t tm i) := h'.2.2.1
  rw [b2, e3, h7, nI_clamp (n := skB t tm i) (by omega)]
  unfold ahT at hp
  by_cases hc : skB t tm i < tm
  · obtain ⟨c1, c2, c3⟩ := b4 _ hc
    rw [if_pos hc] at hp
    unfold chI at hp
    rw [if_neg (by omega)] at hp
    rw [c1]
    exact br_f (nI_ge hc (by omega)) ⟨vp_in_nI (by omega) (by decide), hp⟩
  · rw [if_neg hc] at hp
    exact br_t (nI_le (by omega) (by omega)) hp
theorem ahT_le {I : KI} {t : Nat → Nat} {tm n i : Nat} (hb : TbC I t tm n) : ahT t tm i ≤ 126 ∧ (ahT t tm i = 0 ∨ 32 ≤ ahT t tm i) := by
  unfold ahT
  by_cases hc : skB t tm i < tm
  · rw [if_pos hc]
    have := hb.2.2.2 _ hc
    omega
  · rw [if_neg hc]
    omega
theorem sp_figure {I0 I : KI} {Q : KQ} {net p n i tm : Nat} {t : Nat → Nat} {post : Int32 → KI → Prop} (h7 : rq Q 274 0 = 275) (hb : TbC I0 t tm n) (hn : n ≤ 6) (h : CsI I0 I net p n i) (hi : i ≤ tm) (hp : ∀ I', CsI I0 I' net p n (skB t tm i) → post (opI (fuT t tm n i)) I') : wp_X8_figure I Q 274 post := by
  unfold wp_X8_figure
  refine sp_ahead h7 hb h hi (fun I' h' => ?_)
  have hp := hp I' h'
  obtain ⟨b1, b2, b3, b4⟩ := h'.tb hb
  obtain ⟨l1, l2⟩ := ahT_le (i := i) hb
  rw [b3]
  unfold fuT at hp
  by_cases h0 : ahT t tm i = 0
  · rw [h0] at hp ⊢
    rw [if_neg (by omega)] at hp
    exact ⟨fun _ => hp, fun c => absurd (by decide) c⟩
  · have ec : chI (ahT t tm i) = nI (ahT t tm i) := by unfold chI; rw [if_neg h0]
    rw [ec]
    by_cases h48 : 48 ≤ ahT t tm i
    · rw [show nI (ahT t tm i) - (48 : Int32) = nI (ahT t tm i - 48) from pk_sub (a := ahT t tm i) (b := 48) h48]
      refine br_f (nI_pos (by omega)) ⟨fun c => ?_, fun c => ?_⟩
      · have := (nI_leI (by omega) (by omega)).mp c
        rw [if_neg (by omega)] at hp
        exact hp
      · have : ¬ n ≤ ahT t tm i - 48 := fun z => c (nI_le z (by omega))
        rw [if_pos (by omega)] at hp
        exact hp
    · rw [if_neg (by omega)] at hp
      exact br_t (pk_sneg (a := ahT t tm i) (b := 48) (by omega) (by omega)) hp
/-! path, ring -/
def RwI (n met f l c : Nat) : Prop := met < 2 ^ n ∧ pcT met n = c ∧ (c = 0 → met = 0) ∧ (c ≠ 0 → met ≠ 0 ∧ f < n ∧ l < n ∧ met.testBit f = true ∧ met.testBit l = true) ∧ (2 ≤ c → f ≠ l)
theorem pcT_or {m v : Nat} (h : m.testBit v = false) : ∀ n, v < n → pcT (m ||| 2 ^ v) n = pcT m n + 1 := by
  have low : ∀ n, n ≤ v → pcT (m ||| 2 ^ v) n = pcT m n := by
    intro n
    induction n with
    | zero => intro _; rfl
    | succ n ih =>
      intro hn
      simp only [pcT]
      rw [ih (by omega), tb_or m v n (by omega)]
  intro n
  induction n with
  | zero => intro hv; exact absurd hv (Nat.not_lt_zero v)
  | succ n ih =>
    intro hv
    simp only [pcT]
    by_cases hnv : n = v
    · subst hnv
      rw [low n (Nat.le_refl n), tb_or_s, if_pos rfl, if_neg (by rw [h]; decide)]
    · rw [ih (by omega), tb_or m v n hnv]
      omega
theorem pcT_0 : ∀ n, pcT 0 n = 0 := by
  intro n
  induction n with
  | zero => rfl
  | succ n ih => simp only [pcT]; rw [ih, Nat.zero_testBit, if_neg (by decide)]
theorem RwI.zero (n : Nat) : RwI n 0 0 0 0 := ⟨Nat.two_pow_pos n, pcT_0 n, fun _ => rfl, fun h => absurd rfl h, fun h => absurd h (by decide)⟩
theorem RwI.step {n met f l c v : Nat} (h : RwI n met f l c) (hv : v < n) (hb : met.testBit v = false) : RwI n (met ||| 2 ^ v) (if met = 0 then v else f) v (c + 1) := by
  obtain ⟨h1, h2, h3, h4, h5⟩ := h
  have hne : met ||| 2 ^ v ≠ 0 := fun z => by
    have := tb_or_s met v
    rw [z, Nat.zero_testBit] at this
    cases this
  refine ⟨Nat.or_lt_two_pow h1 (Nat.pow_lt_pow_right (by omega) hv), by rw [pcT_or hb n hv, h2], fun z => by omega, fun _ => ?_, fun hc => ?_⟩
  · by_cases hm : met = 0
    · rw [if_pos hm]
      exact ⟨hne, hv, hv, tb_or_s met v, tb_or_s met v⟩
    · rw [if_neg hm]
      have hc : c ≠ 0 := fun z => hm (h3 z)
      obtain ⟨q1, q2, q3, q4, q5⟩ := h4 hc
      exact ⟨hne, q2, hv, SubN.or_l _ _ f q4, tb_or_s met v⟩
  · have hc0 : c ≠ 0 := by omega
    obtain ⟨q1, q2, q3, q4, q5⟩ := h4 hc0
    rw [if_neg q1]
    intro z
    rw [z, hb] at q4
    cases q4
theorem lp_crow {I0 : KI} {Q : KQ} {net n tm : Nat} {t : Nat → Nat} {post : Int32 → KI → Prop} {kk : KI → Int32 → Int32 → Prop} (h7 : rq Q 274 0 = 275) (h8 : rq Q 274 1 = 276) (h9 : rq Q 276 0 = 277) (hb : TbC I0 t tm n) (h2 : 2 ≤ n) (hn : n ≤ 6) (hnet : net < 8) : ∀ d c i met f l p I, c + d = n → CsI I0 I net p n i → i ≤ tm → RwI n met f l c → ((rwT t tm n d i met f l p).1 = true → ∀ I' f' l', CsI I0 I' net (rwT t tm n d i met f l p).2.2.1 n (rwT t tm n d i met f l p).2.1 → (rwT t tm n d i met f l p).2.1 ≤ tm → f' = (rwT t tm n d i met f l p).2.2.2.1 → l' = (rwT t tm n d i met f l p).2.2.2.2 → f' < n → l' < n → f' ≠ l' → kk I' (nI f') (nI l')) → ((rwT t tm n d i met f l p).1 = false → ∀ I', CsI I0 I' net (rwT t tm n d i met f l p).2.2.1 n (rwT t tm n d i met f l p).2.1 → post 0 I') → wp_X8_isRow_L11 Q 274 (nI net) post kk (d + 1) I (nI met) (if c = 0 then -1 else nI f) (if c = 0 then -1 else nI l) (nI c) := by
  intro d
  induction d with
  | zero =>
    intro c i met f l p I hc h hi hR hp1 hp0
    obtain ⟨b1, b2, b3, b4⟩ := h.tb hb
    have hcn : c = n := by omega
    have hc0 : c ≠ 0 := by omega
    obtain ⟨r1, r2, r3, r4, r5⟩ := hR
    obtain ⟨s1, s2, s3, s4, s5⟩ := r4 hc0
    unfold wp_X8_isRow_L11
    rw [b3, if_neg hc0, if_neg hc0]
    exact br_t (nI_le (by omega) (by omega)) (hp1 rfl I f l h hi rfl rfl s2 s3 (r5 (by omega)))
  | succ d ih =>
    intro c i met f l p I hc h hi hR hp1 hp0
    obtain ⟨b1, b2, b3, b4⟩ := h.tb hb
    have hmet : met < 2 ^ 6 := Nat.lt_of_lt_of_le hR.1 (Nat.pow_le_pow_right (by omega) hn)
    unfold wp_X8_isRow_L11
    rw [b3]
    refine br_f (nI_ge (by omega) (by omega)) (sp_figure h7 hb hn h hi (fun I1 g1 => ?_))
    have hsk := skB_le (t := t) hi
    simp only [rwT] at hp1 hp0
    cases hf : fuT t tm n i with
    | none =>
      rw [hf] at hp0
      exact ⟨fun _ => hp0 rfl I1 g1, fun z => absurd (by decide) z⟩
    | some v =>
      rw [hf] at hp1 hp0
      simp only at hp1 hp0
      obtain ⟨v1, v2, v3⟩ := fuT_some hf
      refine br_f (nI_pos (show v < 2 ^ 31 by omega)) (sp_has (a := met) (j := v) (by omega) (by omega) ?_)
      cases hbit : met.testBit v with
      | true =>
        rw [hbit] at hp0
        exact ⟨fun z => absurd z (by decide), fun _ => hp0 rfl I1 g1⟩
      | false =>
        rw [hbit] at hp1 hp0
        simp only at hp1 hp0
        have hst := hR.step v1 hbit
        have hup := g1.up
        refine ⟨fun _ => ⟨fun c1 => ?_, fun c1 => ?_⟩, fun z => absurd rfl z⟩
        · have hc0 : c ≠ 0 := fun z => c1 (by rw [z]; rfl)
          obtain ⟨s1, s2, s3, s4, s5⟩ := hR.2.2.2.1 hc0
          have hlv : l ≠ v := fun z => by rw [z, hbit] at s5; cases s5
          rw [if_neg hc0, if_neg hc0, h8]
          refine sp_link hnet hn s3 v1 hlv (by rw [h9]; exact hup.2.2.2.1) (fun g k1 k2 => ?_)
          rw [h9] at k2 ⊢
          have hcs := hup.link k1 k2
          show wp_X8_isRow_L11 Q 274 (nI net) post kk (d + 1) _ (nI met ||| 1 <<< (nI v &&& 31)) (nI f) (nI v) (nI c + 1)
          rw [ni_shl1 v (by omega), ni_or, nI_1]
          have := ih (c + 1) (skB t tm i + 1) (met ||| 2 ^ v) (if met = 0 then v else f) v (p ||| 2 ^ pi2 l v) _ (by omega) hcs v3 hst
          rw [if_neg s1] at this hp1 hp0
          rw [if_neg s1] at hp1 hp0
          have := this hp1 hp0
          rw [if_neg (Nat.succ_ne_zero c), if_neg (Nat.succ_ne_zero c)] at this
          exact this
        · have hc0 : c = 0 := (nI_z (by omega)).mp c1
          have hm0 := hR.2.2.1 hc0
          show wp_X8_isRow_L11 Q 274 (nI net) post kk (d + 1) _ (nI met ||| 1 <<< (nI v &&& 31)) (nI v) (nI v) (nI c + 1)
          rw [ni_shl1 v (by omega), ni_or, nI_1]
          have := ih (c + 1) (skB t tm i + 1) (met ||| 2 ^ v) (if met = 0 then v else f) v p _ (by omega) hup v3 hst
          rw [if_pos hm0] at this hp1 hp0
          rw [if_pos hm0] at hp1 hp0
          have := this hp1 hp0
          rw [if_neg (Nat.succ_ne_zero c)] at this
          exact this
