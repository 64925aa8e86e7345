/-! PURE, 37: texts, as the reference reads them -/
def TbM (I : KI) (t : Nat → Nat) (tm n net : Nat) : Prop := tm ≤ 90 ∧ I 287 20 = nI tm ∧ I 287 22 = nI net ∧ I 288 0 = nI n ∧ ∀ j, j < tm → I 299 j = nI (t j) ∧ 32 ≤ t j ∧ t j ≤ 126
def MsI (I0 I : KI) (net i : Nat) : Prop := (∀ q, q ≠ 287 → q ≠ 300 → I q = I0 q) ∧ (∀ j, j ≠ 21 → I 287 j = I0 287 j) ∧ I 287 21 = nI i ∧ ∀ x, x < net → I 300 x = I0 300 x
theorem MsI.tb {I0 I : KI} {net n i tm : Nat} {t : Nat → Nat} (h : MsI I0 I net i) (hb : TbM I0 t tm n net) : TbM I t tm n net := by
  obtain ⟨h1, h2, h3, h4⟩ := h
  obtain ⟨b1, b2, b3, b4, b5⟩ := hb
  exact ⟨b1, by rw [h2 20 (by decide)]; exact b2, by rw [h2 22 (by decide)]; exact b3, by rw [h1 288 (by decide) (by decide)]; exact b4, fun j hj => by rw [h1 299 (by decide) (by decide)]; exact b5 j hj⟩
theorem MsI.to {I0 I : KI} {net i : Nat} (h : MsI I0 I net i) (j : Nat) : MsI I0 (sti I 287 21 (nI j)) net j := by
  obtain ⟨h1, h2, h3, h4⟩ := h
  exact ⟨fun q q1 q2 => by rw [sti_ne _ _ _ q1]; exact h1 q q1 q2, fun x hx => by rw [sti_at, pk_un hx]; exact h2 x hx, by rw [sti_at, pk_us], fun x hx => by rw [sti_ne _ _ _ (by decide)]; exact h4 x hx⟩
theorem MsI.up {I0 I : KI} {net i : Nat} (h : MsI I0 I net i) : MsI I0 (sti I 287 21 (I 287 21 + 1)) net (i + 1) := by
  rw [h.2.2.1, nI_1]
  exact h.to (i + 1)
theorem MsI.put {I0 I : KI} {net i : Nat} (h : MsI I0 I net i) (x : Int32) : MsI I0 (sti I 300 net x) net i := by
  obtain ⟨h1, h2, h3, h4⟩ := h
  exact ⟨fun q q1 q2 => by rw [sti_ne _ _ _ q2]; exact h1 q q1 q2, fun x hx => by rw [sti_ne _ _ _ (by decide)]; exact h2 x hx, by rw [sti_ne _ _ _ (by decide)]; exact h3, fun x hx => by rw [sti_at, pk_un (by omega)]; exact h4 x hx⟩
theorem lp_here {I0 : KI} {Q : KQ} {net n tm : Nat} {t : Nat → Nat} {kk : KI → Prop} (hM : MdQ Q) (hb : TbM I0 t tm n net) : ∀ d i I, i + d = tm → MsI I0 I net i → (∀ I', MsI I0 I' net (skT t d i) → kk I') → wp_X11_here_L0 Q 287 kk (d + 1) I := by
  intro d
  induction d with
  | zero =>
    intro i I hi h hp
    obtain ⟨b1, b2, b3, b4, b5⟩ := h.tb hb
    unfold wp_X11_here_L0
    rw [b2, h.2.2.1]
    exact br_t (nI_le (by omega) (by omega)) (hp I h)
  | succ d ih =>
    intro i I hi h hp
    obtain ⟨b1, b2, b3, b4, b5⟩ := h.tb hb
    obtain ⟨c1, c2, c3⟩ := b5 i (by omega)
    have hup := h.up
    unfold wp_X11_here_L0
    rw [b2, hM.tape]
    rw [h.2.2.1] at hup ⊢
    rw [nI_clamp (n := i) (by omega), c1, show (nI (t i) = (32 : Int32)) = (t i = 32) from propext (nI_eq (b := 32) (by omega) (by decide))]
    refine br_f (nI_ge (by omega) (by omega)) ⟨vp_in_nI (by omega) (by decide), fun c => ?_, fun c => ?_⟩
    · rw [skT_f c] at hp
      exact hp I h
    · rw [skT_t c] at hp
      exact ih (i + 1) _ (by omega) hup hp
theorem ms_here {I0 I : KI} {Q : KQ} {net n i tm : Nat} {t : Nat → Nat} {post : Int32 → KI → Prop} (hM : MdQ Q) (hb : TbM I0 t tm n net) (h : MsI I0 I net i) (hi : i ≤ tm) (hp : ∀ I', MsI I0 I' net (skB t tm i) → post (chI (ahT t tm i)) I') : wp_X11_here I Q 287 post := by
  unfold wp_X11_here
  refine ⟨tm - i + 1, lp_here hM hb (tm - i) i I (by omega) h (fun I' h' => ?_)⟩
  have hp := hp I' h'
  obtain ⟨b1, b2, b3, b4, b5⟩ := h'.tb hb
  have hle := skB_le (t := t) hi
  have e3 : I' 287 21 = nI (skB t tm i) := h'.2.2.1
  rw [b2, e3, hM.tape, nI_clamp (n := skB t tm i) (by omega)]
  unfold ahT at hp
  by_cases hc : skB t tm i < tm
  · obtain ⟨c1, c2, c3⟩ := b5 _ hc
    rw [if_pos hc] at hp
    unfold chI at hp
    rw [if_neg (by omega)] at hp
    rw [c1]
    exact br_f (nI_ge hc (by omega)) ⟨vp_in_nI (by omega) (by decide), hp⟩
  · rw [if_neg hc] at hp
    exact br_t (nI_le (by omega) (by omega)) hp
theorem ahM_le {I : KI} {t : Nat → Nat} {tm n net i : Nat} (hb : TbM I t tm n net) : ahT t tm i ≤ 126 ∧ (ahT t tm i = 0 ∨ 32 ≤ ahT t tm i) := by
  unfold ahT
  by_cases hc : skB t tm i < tm
  · rw [if_pos hc]
    have := hb.2.2.2.2 _ hc
    omega
  · rw [if_neg hc]
    omega
def op4 : Option Nat → Int32
  | none => -4
  | some k => nI k
theorem ms_nodeHere {I0 I : KI} {Q : KQ} {net n i tm : Nat} {t : Nat → Nat} {post : Int32 → KI → Prop} (hM : MdQ Q) (hb : TbM I0 t tm n net) (hn : n ≤ 6) (h : MsI I0 I net i) (hi : i ≤ tm) (hp : ∀ I', MsI I0 I' net (skB t tm i) → post (op4 (fuT t tm n i)) I') : wp_X11_nodeHere I Q 287 post := by
  unfold wp_X11_nodeHere
  refine ms_here hM hb h hi (fun I' h' => ?_)
  have hp := hp I' h'
  obtain ⟨b1, b2, b3, b4, b5⟩ := h'.tb hb
  obtain ⟨l1, l2⟩ := ahM_le (i := i) hb
  rw [hM.now, tc0, b4, show (48 : Int32) + nI n = nI (48 + n) from nI_add 48 n]
  unfold fuT at hp
  by_cases h0 : ahT t tm i = 0
  · rw [h0] at hp ⊢
    rw [if_neg (by omega)] at hp
    exact ⟨fun _ => hp, fun c => absurd (by decide) c⟩
  · have ec : chI (ahT t tm i) = nI (ahT t tm i) := by unfold chI; rw [if_neg h0]
    rw [ec]
    by_cases h48 : 48 ≤ ahT t tm i
    · rw [show nI (ahT t tm i) - (48 : Int32) = nI (ahT t tm i - 48) from pk_sub (a := ahT t tm i) (b := 48) h48]
      refine br_f (nI_nlt (b := 48) h48 (by omega)) ⟨fun c => ?_, fun c => ?_⟩
      · have := (nI_leI (by omega) (by omega)).mp c
        rw [if_neg (by omega)] at hp
        exact hp
      · have : ¬ 48 + n ≤ ahT t tm i := fun z => c (nI_le z (by omega))
        rw [if_pos (by omega)] at hp
        exact hp
    · rw [if_neg (by omega)] at hp
      exact br_t (nI_lt (b := 48) (by omega) (by decide)) hp
theorem op4_some {v : Nat} (hv : v < 2 ^ 31) : ¬ op4 (some v) = -4 := by
  intro c
  have h := nI_pos hv
  have c : nI v = -4 := c
  rw [c] at h
  exact h (by decide)
theorem nI_n4 {v : Nat} (hv : v < 2 ^ 31) : ¬ nI v = -4 := op4_some hv
/-! path, ring -/
theorem RwI.full {n met f l : Nat} (h : RwI n met f l n) : met = 2 ^ n - 1 := (all_bits h.1).mpr (pcT_full n (by rw [h.2.1]; exact Nat.le_refl n))
theorem RwI.part {n met f l c : Nat} (h : RwI n met f l c) (hc : c < n) : met ≠ 2 ^ n - 1 := by
  intro z
  have h1 := (all_bits h.1).mp z
  have h2 : ∀ i, i ≤ n → pcT met i = i := by
    intro i
    induction i with
    | zero => intro _; rfl
    | succ i ih =>
      intro hi
      simp only [pcT]
      rw [ih (by omega), if_pos (h1 i (by omega))]
  have := h2 n (Nat.le_refl n)
  have := h.2.1
  omega
theorem rwT_lt {t : Nat → Nat} {tm n : Nat} (hn : n ≤ 6) : ∀ d i met f l p c, RwI n met f l c → p < 2 ^ (n * (n - 1) / 2) → (rwT t tm n d i met f l p).2.2.1 < 2 ^ (n * (n - 1) / 2) := by
  intro d
  induction d with
  | zero => intro i met f l p c _ hp; exact hp
  | succ d ih =>
    intro i met f l p c hR hp
    simp only [rwT]
    cases hf : fuT t tm n i with
    | none => exact hp
    | some v =>
      simp only
      cases hb : met.testBit v with
      | true => exact hp
      | false =>
        obtain ⟨v1, -, -⟩ := fuT_some hf
        refine ih _ _ _ _ _ (c + 1) (hR.step v1 hb) ?_
        by_cases hm : met = 0
        · rw [if_pos hm]; exact hp
        · rw [if_neg hm]
          have hc : c ≠ 0 := fun z => hm (hR.2.2.1 z)
          obtain ⟨q1, q2, q3, q4, q5⟩ := hR.2.2.2.1 hc
          have hlv : l ≠ v := fun z => by rw [z, hb] at q5; cases q5
          exact Nat.or_lt_two_pow hp (Nat.pow_lt_pow_right (by omega) (pi2_lt n hn l q3 v v1 hlv))
theorem lp_mrow {I0 : KI} {Q : KQ} {net n tm : Nat} {t : Nat → Nat} {kk : KI → Int32 → Int32 → Int32 → Int32 → Prop} (hM : MdQ Q) (hb : TbM I0 t tm n net) (h2 : 2 ≤ n) (hn : n ≤ 6) : ∀ d c i met f l p I, c + d = n → MsI I0 I net i → i ≤ tm → RwI n met f l c → ((rwT t tm n d i met f l p).1 = true → ∀ I' f' l', MsI I0 I' net (skB t tm (rwT t tm n d i met f l p).2.1) → f' = (rwT t tm n d i met f l p).2.2.2.1 → l' = (rwT t tm n d i met f l p).2.2.2.2 → f' < n → l' < n → f' ≠ l' → kk I' (nI (2 ^ n - 1)) (nI f') (nI l') (nI (rwT t tm n d i met f l p).2.2.1)) → ((rwT t tm n d i met f l p).1 = false → ∀ I' m' x3 x4 x5, MsI I0 I' net (rwT t tm n d i met f l p).2.1 → m' < 2 ^ n → m' ≠ 2 ^ n - 1 → kk I' (nI m') x3 x4 x5) → wp_X11_readsRow_L12 Q 287 kk (d + 1) I (nI met) (if c = 0 then -4 else nI f) (if c = 0 then -4 else nI l) (nI p) := by
  have h26 : 2 ^ n ≤ 2 ^ 6 := Nat.pow_le_pow_right (by omega) hn
  intro d
  induction d with
  | zero =>
    intro c i met f l p I hc h hi hR hp1 hp0
    have hcn : c = n := by omega
    subst hcn
    have hc0 : c ≠ 0 := by omega
    obtain ⟨r1, r2, r3, r4, r5⟩ := id hR
    obtain ⟨s1, s2, s3, s4, s5⟩ := r4 hc0
    have hs := skB_le (t := t) hi
    have hfull := hR.full
    unfold wp_X11_readsRow_L12
    rw [if_neg hc0, if_neg hc0]
    refine ms_nodeHere hM hb hn h hi (fun I1 g1 => ?_)
    have fin : ∀ I', MsI I0 I' net (skB t tm i) → kk I' (nI met) (nI f) (nI l) (nI p) := fun I' g => by
      have := hp1 rfl I' f l g rfl rfl s2 s3 (r5 (by omega))
      rw [← hfull] at this
      exact this
    cases hf : fuT t tm c i with
    | none => exact ⟨fun _ => fin I1 g1, fun z => absurd rfl z⟩
    | some v =>
      obtain ⟨v1, v2, v3⟩ := fuT_some hf
      refine ⟨fun z => absurd z (op4_some (by omega)), fun _ => ms_nodeHere hM hb hn g1 hs.2 (fun I2 g2 => ?_)⟩
      rw [fuT_id hi, hf]
      rw [skB_id hi] at g2
      refine ms_has (a := met) (j := v) (by omega) (by omega) ?_
      have : met.testBit v = true := (all_bits r1).mp hfull v v1
      rw [this]
      exact ⟨fun _ => fin I2 g2, fun z => absurd z (by decide)⟩
  | succ d ih =>
    intro c i met f l p I hc h hi hR hp1 hp0
    have hs := skB_le (t := t) hi
    have hmet : met < 2 ^ 6 := Nat.lt_of_lt_of_le hR.1 h26
    unfold wp_X11_readsRow_L12
    refine ms_nodeHere hM hb hn h hi (fun I1 g1 => ?_)
    simp only [rwT] at hp1 hp0
    cases hf : fuT t tm n i with
    | none =>
      rw [hf] at hp0
      exact ⟨fun _ => hp0 rfl I1 met _ _ _ g1 hR.1 (hR.part (by omega)), fun z => absurd rfl z⟩
    | some v =>
      rw [hf] at hp1 hp0
      simp only at hp1 hp0
      obtain ⟨v1, v2, v3⟩ := fuT_some hf
      refine ⟨fun z => absurd z (op4_some (by omega)), fun _ => ms_nodeHere hM hb hn g1 hs.2 (fun I2 g2 => ?_)⟩
      rw [fuT_id hi, hf]
      rw [skB_id hi] at g2
      refine ms_has (a := met) (j := v) (by omega) (by omega) ?_
      cases hbit : met.testBit v with
      | true =>
        rw [hbit] at hp0
        exact ⟨fun _ => hp0 rfl I2 met _ _ _ g2 hR.1 (hR.part (by omega)), fun z => absurd z (by decide)⟩
      | false =>
        rw [hbit] at hp1 hp0
        simp only at hp1 hp0
        refine ⟨fun z => absurd rfl z, fun _ => ms_nodeHere hM hb hn g2 hs.2 (fun I3 g3 => ?_)⟩
        rw [fuT_id hi, hf]
        rw [skB_id hi] at g3
        have hst := hR.step v1 hbit
        have hup := g3.up
        have hsh : nI met ||| ((1 : Int32) <<< (op4 (some v) &&& 31)) = nI (met ||| 2 ^ v) := by
          show nI met ||| ((1 : Int32) <<< (nI v &&& 31)) = _
          rw [ni_shl1 v (by omega), ni_or]
        rw [hsh]
        have := fun p' => ih (c + 1) (skB t tm i + 1) (met ||| 2 ^ v) (if met = 0 then v else f) v p' _ (by omega) hup v3 hst
        by_cases hc0 : c = 0
        · have hm0 := hR.2.2.1 hc0
          rw [if_pos hc0, if_pos hc0]
          refine ⟨fun z => absurd rfl z, fun _ => ⟨fun z => absurd rfl z, fun _ => ?_⟩⟩
          have := this p
          rw [if_pos hm0] at this hp1 hp0
          rw [if_pos hm0] at hp1 hp0
          have := this hp1 hp0
          rw [if_neg (Nat.succ_ne_zero c)] at this
          rw [show (0 : Int32) = nI 0 from rfl, ni_or, Nat.or_zero]
          exact this
        · obtain ⟨s1, s2, s3, s4, s5⟩ := hR.2.2.2.1 hc0
          have hlv : l ≠ v := fun z => by rw [z, hbit] at s5; cases s5
          rw [if_neg hc0, if_neg hc0]
          refine ⟨fun _ => ms_linkOf (by omega) (by omega) hlv ⟨fun _ => ?_, fun z => absurd z (nI_n4 (by omega))⟩, fun z => absurd z (nI_n4 (by omega))⟩
          have hpi := pi2_lt6 (show l < 6 by omega) (show v < 6 by omega) hlv
          rw [ni_shl1 _ (by omega), ni_or]
          have := this (p ||| 2 ^ pi2 l v)
          rw [if_neg s1] at this hp1 hp0
          rw [if_neg s1] at hp1 hp0
          have := this hp1 hp0
          rw [if_neg (Nat.succ_ne_zero c), if_neg (Nat.succ_ne_zero c)] at this
          exact this
theorem ms_row2 {I0 I : KI} {Q : KQ} {net n tm e : Nat} {x : Int32} {t : Nat → Nat} {post : Int32 → KI → Prop} (hM : MdQ Q) (hb : TbM I0 t tm n net) (h2 : 2 ≤ n) (hn : n ≤ 6) (hnet : net < 8) (h : MsI I0 I net e) (he : e ≤ tm) (hp1 : (rwT t tm n n e 0 0 0 0).1 = true → ∀ I', MsI I0 I' net (skB t tm (rwT t tm n n e 0 0 0 0).2.1) → I' 300 net = nI (if x = 0 then (rwT t tm n n e 0 0 0 0).2.2.1 else (rwT t tm n n e 0 0 0 0).2.2.1 ||| 2 ^ pi2 (rwT t tm n n e 0 0 0 0).2.2.2.2 (rwT t tm n n e 0 0 0 0).2.2.2.1) → post 1 I') (hp0 : (rwT t tm n n e 0 0 0 0).1 = false → ∀ I', MsI I0 I' net (rwT t tm n n e 0 0 0 0).2.1 → post 0 I') : wp_X11_readsRow I Q 287 x post := by
  have h26 : 2 ^ n ≤ 2 ^ 6 := Nat.pow_le_pow_right (by omega) hn
  have h20 := Nat.two_pow_pos n
  have hfl : ∀ I', MsI I0 I' net (skB t tm (rwT t tm n n e 0 0 0 0).2.1) ∨ MsI I0 I' net (rwT t tm n n e 0 0 0 0).2.1 → ((1 : Int32) <<< ((I' 288 0) &&& 31)) - (1 : Int32) = nI (2 ^ n - 1) ∧ I' 287 22 = nI net := fun I' hh => by
    have tb : TbM I' t tm n net := by
      rcases hh with hh | hh
      · exact hh.tb hb
      · exact hh.tb hb
    rw [tb.2.2.2.1, ni_shl1 n (by omega)]
    exact ⟨pk_sub (a := 2 ^ n) (b := 1) (by omega), tb.2.2.1⟩
  unfold wp_X11_readsRow
  refine ⟨n + 1, ?_⟩
  rw [hM.now, tc0, hM.newPlan]
  have := lp_mrow (kk := fun I_13 x2_13 x3_13 x4_13 x5_13 => ((x2_13 = (((1 : Int32) <<< ((I_13 288 0) &&& 31)) - (1 : Int32)) → ((x = 0 → (vp_in (I_13 287 22) 8 ∧ post (1 : Int32) (sti I_13 300 (I_13 287 22).toNatClampNeg (x5_13 ||| (0 : Int32))))) ∧ (¬ x = 0 → wp_X11_linkOf x3_13 x4_13 (fun r18 => (vp_in (I_13 287 22) 8 ∧ post (1 : Int32) (sti I_13 300 (I_13 287 22).toNatClampNeg (x5_13 ||| ((1 : Int32) <<< (r18 &&& 31))))))))) ∧ (¬ x2_13 = (((1 : Int32) <<< ((I_13 288 0) &&& 31)) - (1 : Int32)) → post (0 : Int32) I_13))) hM hb h2 hn n 0 e 0 0 0 0 I (by omega) h he (RwI.zero n) (fun hok I' f' l' k1 k3 k4 k5 k6 k7 => ?_) (fun hno I' m' x3 x4 x5 k1 k2 k3 => ?_)
  · exact this
  · obtain ⟨f1, f2⟩ := hfl I' (Or.inl k1)
    show (_ ∧ _)
    rw [f1, f2, nI_clamp (n := net) (by omega)]
    refine br_t rfl ⟨fun z => ⟨vp_in_nI hnet (by decide), ?_⟩, fun z => ms_linkOf (by omega) (by omega) k7 ⟨vp_in_nI hnet (by decide), ?_⟩⟩
    · have h := hp1 hok _ (k1.put (nI (rwT t tm n n e 0 0 0 0).2.2.1 ||| 0))
      rw [if_pos z] at h
      exact h (by rw [sti_at, pk_us, show (0 : Int32) = nI 0 from rfl, ni_or, Nat.or_zero])
    · have hpi := pi2_lt6 (show f' < 6 by omega) (show l' < 6 by omega) k7
      have h := hp1 hok _ (k1.put (nI (rwT t tm n n e 0 0 0 0).2.2.1 ||| ((1 : Int32) <<< (nI (pi2 f' l') &&& 31))))
      rw [if_neg z] at h
      exact h (by rw [sti_at, pk_us, ni_shl1 _ (by omega), ni_or, k3, k4, pi2_c])
  · obtain ⟨f1, f2⟩ := hfl I' (Or.inr k1)
    show (_ ∧ _)
    rw [f1, nI_eq (by omega) (by omega)]
    exact br_f k3 (hp0 hno I' k1)
/-! star -/
theorem lp_mstar {I0 : KI} {Q : KQ} {net n tm i v : Nat} {t : Nat → Nat} {post : Int32 → KI → Prop} (hM : MdQ Q) (hb : TbM I0 t tm n net) (hn : n ≤ 6) (hnet : net < 8) (hv : v < n) (hp : ∀ I', MsI I0 I' net i → I' 300 net = nI (saT v 0 n) → post 1 I') : ∀ d u I, u + d = n → MsI I0 I net i → I 300 net = nI (saT v 0 u) → wp_X11_readsStar_L35 Q 287 (nI v) post (d + 1) I (nI u) := by
  intro d
  induction d with
  | zero =>
    intro u I hu h h3
    have : u = n := by omega
    subst this
    obtain ⟨b1, b2, b3, b4, b5⟩ := h.tb hb
    unfold wp_X11_readsStar_L35
    rw [hM.now, tc0, b4]
    exact br_t (nI_le (Nat.le_refl _) (by omega)) (hp I h h3)
  | succ d ih =>
    intro u I hu h h3
    obtain ⟨b1, b2, b3, b4, b5⟩ := h.tb hb
    have ih := ih (u + 1)
    simp only [saT] at ih
    have hin : vp_in (nI net) 8 := vp_in_nI hnet (by decide)
    unfold wp_X11_readsStar_L35
    rw [hM.now, hM.newPlan, tc0, b4, b3, nI_clamp (n := net) (by omega), h3, nI_eq (by omega) (by omega), nI_1]
    refine br_f (nI_ge (by omega) (by omega)) ⟨hin, fun c => ms_linkOf (by omega) (by omega) c ⟨hin, ?_⟩, fun c => ⟨hin, ?_⟩⟩
    · have hpi := pi2_lt6 (show u < 6 by omega) (show v < 6 by omega) c
      rw [ni_shl1 _ (by omega), ni_or]
      rw [if_neg c] at ih
      exact ih _ (by omega) (h.put _) (by rw [sti_at, pk_us])
    · rw [show (0 : Int32) = nI 0 from rfl, ni_or, Nat.or_zero]
      rw [if_pos c] at ih
      exact ih _ (by omega) (h.put _) (by rw [sti_at, pk_us])
theorem ms_star {I0 I : KI} {Q : KQ} {net n tm e : Nat} {t : Nat → Nat} {post : Int32 → KI → Prop} (hM : MdQ Q) (hb : TbM I0 t tm n net) (hn : n ≤ 6) (hnet : net < 8) (h : MsI I0 I net e) (he : e ≤ tm) (hp1 : ∀ v, fuT t tm n e = some v → ∀ I', MsI I0 I' net (nxB t tm e) → I' 300 net = nI (saT v 0 n) → post 1 I') (hp0 : fuT t tm n e = none → ∀ I', MsI I0 I' net (skB t tm e) → post 0 I') : wp_X11_readsStar I Q 287 post := by
  unfold wp_X11_readsStar
  refine ms_nodeHere hM hb hn h he (fun I1 g1 => ?_)
  cases hf : fuT t tm n e with
  | none => exact ⟨fun z => absurd rfl z, fun _ => hp0 hf I1 g1⟩
  | some v =>
    obtain ⟨v1, v2, v3⟩ := fuT_some hf
    have g2 := g1.up
    obtain ⟨b1, b2, b3, b4, b5⟩ := g2.tb hb
    refine ⟨fun _ => ?_, fun z => absurd z (op4_some (by omega))⟩
    rw [b3, hM.newPlan, nI_clamp (n := net) (by omega)]
    exact ⟨vp_in_nI hnet (by decide), n + 1, lp_mstar (i := nxB t tm e) hM hb hn hnet v1 (hp1 v hf) n 0 _ (by omega) (g2.put 0) (by rw [sti_at, pk_us]; rfl)⟩
