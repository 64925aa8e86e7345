/-! PURE, 39: read -/
def TbZ (I : KI) (t : Nat → Nat) (tm n : Nat) : Prop := tm ≤ 90 ∧ I 287 20 = nI tm ∧ I 288 0 = nI n ∧ ∀ j, j < tm → I 299 j = nI (t j) ∧ 32 ≤ t j ∧ t j ≤ 126
def PmI (I0 I : KI) (cnt : Nat) (L : Nat → Nat) (i : Nat) : Prop := (∀ q, q ≠ 287 → q ≠ 300 → I q = I0 q) ∧ (∀ j, j ≠ 21 → j ≠ 22 → I 287 j = I0 287 j) ∧ I 287 22 = nI cnt ∧ I 287 21 = nI i ∧ ∀ x, x < cnt → I 300 x = nI (L x)
theorem PmI.tb {I0 I : KI} {cnt i tm n : Nat} {L t : Nat → Nat} (h : PmI I0 I cnt L i) (hb : TbZ I0 t tm n) : TbM I t tm n cnt := by
  obtain ⟨h1, h2, h3, h4, h5⟩ := h
  obtain ⟨b1, b2, b3, b4⟩ := hb
  exact ⟨b1, by rw [h2 20 (by decide) (by decide)]; exact b2, h3, by rw [h1 288 (by decide) (by decide)]; exact b3, fun j hj => by rw [h1 299 (by decide) (by decide)]; exact b4 j hj⟩
theorem PmI.ms {I0 I : KI} {cnt i : Nat} {L : Nat → Nat} (h : PmI I0 I cnt L i) : MsI I I cnt i := ⟨fun _ _ _ => rfl, fun _ _ => rfl, h.2.2.2.1, fun _ _ => rfl⟩
theorem PmI.of {I0 I I' : KI} {cnt i j : Nat} {L : Nat → Nat} (h : PmI I0 I cnt L i) (hm : MsI I I' cnt j) : PmI I0 I' cnt L j := ⟨fun q q1 q2 => by rw [hm.1 q q1 q2]; exact h.1 q q1 q2, fun x q1 q2 => by rw [hm.2.1 x q1]; exact h.2.1 x q1 q2, by rw [hm.2.1 22 (by decide)]; exact h.2.2.1, hm.2.2.1, fun x hx => by rw [hm.2.2.2 x hx]; exact h.2.2.2.2 x hx⟩
theorem PmI.to {I0 I : KI} {cnt i : Nat} {L : Nat → Nat} (h : PmI I0 I cnt L i) (j : Nat) : PmI I0 (sti I 287 21 (nI j)) cnt L j := ⟨fun q q1 q2 => by rw [sti_ne _ _ _ q1]; exact h.1 q q1 q2, fun x q1 q2 => by rw [sti_at, pk_un q1]; exact h.2.1 x q1 q2, by rw [sti_at, pk_un (by decide)]; exact h.2.2.1, by rw [sti_at, pk_us], fun x hx => by rw [sti_ne _ _ _ (by decide)]; exact h.2.2.2.2 x hx⟩
theorem PmI.more {I0 I : KI} {cnt i p : Nat} {L : Nat → Nat} (h : PmI I0 I cnt L i) (h3 : I 300 cnt = nI p) : PmI I0 (sti I 287 22 (nI (cnt + 1))) (cnt + 1) (upk L cnt p) i := ⟨fun q q1 q2 => by rw [sti_ne _ _ _ q1]; exact h.1 q q1 q2, fun x q1 q2 => by rw [sti_at, pk_un q2]; exact h.2.1 x q1 q2, by rw [sti_at, pk_us], by rw [sti_at, pk_un (by decide)]; exact h.2.2.2.1, fun x hx => by
  rw [sti_ne _ _ _ (by decide)]
  by_cases hxc : x = cnt
  · subst hxc; rw [upk_s]; exact h3
  · rw [upk_n hxc]; exact h.2.2.2.2 x (by omega)⟩
theorem lp_hereE {I : KI} {Q : KQ} {n net tm : Nat} {t : Nat → Nat} {kk : KI → Prop} (hM : MdQ Q) (hb : TbM I t tm n net) : ∀ d i, i + d = tm → kk (sti I 287 21 (nI (skT t d i))) → wp_X11_here_L0 Q 287 kk (d + 1) (sti I 287 21 (nI i)) := by
  obtain ⟨b1, b2, b3, b4, b5⟩ := hb
  intro d
  induction d with
  | zero =>
    intro i hi hp
    unfold wp_X11_here_L0
    rw [sti_at, pk_un (by decide), pk_us, b2]
    exact br_t (nI_le (by omega) (by omega)) hp
  | succ d ih =>
    intro i hi hp
    obtain ⟨c1, c2, c3⟩ := b5 i (by omega)
    unfold wp_X11_here_L0
    rw [sti_at, pk_un (by decide), pk_us, b2, hM.tape, nI_clamp (n := i) (by omega), sti_ne (q := 299) _ _ _ (by decide), c1, show (nI (t i) = (32 : Int32)) = (t i = 32) from propext (nI_eq (b := 32) (by omega) (by decide)), sti2, nI_1]
    refine br_f (nI_ge (by omega) (by omega)) ⟨vp_in_nI (by omega) (by decide), fun c => ?_, fun c => ?_⟩
    · rw [skT_f c] at hp
      exact hp
    · rw [skT_t c] at hp
      exact ih (i + 1) (by omega) hp
theorem ms_hereE {I : KI} {Q : KQ} {n net i tm : Nat} {t : Nat → Nat} {post : Int32 → KI → Prop} (hM : MdQ Q) (hb : TbM I t tm n net) (h3 : I 287 21 = nI i) (hi : i ≤ tm) (hp : post (chI (ahT t tm i)) (sti I 287 21 (nI (skB t tm i)))) : wp_X11_here I Q 287 post := by
  obtain ⟨b1, b2, b3, b4, b5⟩ := id hb
  have hle := skB_le (t := t) hi
  unfold wp_X11_here
  have e0 : sti I 287 21 (nI i) = I := by rw [← h3]; exact sti_id I 287 21
  have := lp_hereE (kk := fun I_6 => (((I_6 287 20) ≤ (I_6 287 21) → post (-1 : Int32) I_6) ∧ (¬ (I_6 287 20) ≤ (I_6 287 21) → (vp_in (I_6 287 21) 90 ∧ post (I_6 (rq Q 287 19) (I_6 287 21).toNatClampNeg) I_6)))) hM hb (tm - i) i (by omega) ?_
  · rw [e0] at this
    exact ⟨tm - i + 1, this⟩
  · show (_ ∧ _)
    rw [show skT t (tm - i) i = skB t tm i from rfl, sti_at, pk_un (by decide), pk_us, b2, hM.tape, nI_clamp (n := skB t tm i) (by omega), sti_ne (q := 299) _ _ _ (by decide)]
    unfold ahT at hp
    by_cases hc : skB t tm i < tm
    · obtain ⟨c1, c2, c3⟩ := b5 _ hc
      rw [if_pos hc] at hp
      unfold chI at hp
      rw [if_neg (by omega)] at hp
      rw [c1]
      exact br_f (nI_ge hc (by omega)) ⟨vp_in_nI (by omega) (by decide), hp⟩
    · rw [if_neg hc] at hp
      exact br_t (nI_le (by omega) (by omega)) hp
theorem lp_mreads {I0 : KI} {Q : KQ} {n tm : Nat} {t : Nat → Nat} {post : Int32 → KI → Prop} (hM : MdQ Q) (hb : TbZ I0 t tm n) (h2 : 2 ≤ n) (hn : n ≤ 6) : ∀ d net i L I, net + d = 8 → PmI I0 I net L i → i ≤ tm → ((rdT t tm n d net i L).1 = true → ∀ I' k, PmI I0 I' (rdT t tm n d net i L).2.2.1 (rdT t tm n d net i L).2.2.2 k → k ≤ tm → post 1 I') → ((rdT t tm n d net i L).1 = false → ∀ I' c L', PmI I0 I' c L' (rdT t tm n d net i L).2.1 → (rdT t tm n d net i L).2.1 ≤ tm → post 0 I') → wp_X11_reads_L12 Q 287 post (fun I_12 => wp_X11_here I_12 Q 287 (fun r13 I13 => post (0 : Int32) I13)) (d + 2) I 1 := by
  intro d
  induction d with
  | zero =>
    intro net i L I hd h hi hp1 hp0
    have : net = 8 := by omega
    subst this
    have hs := skB_le (t := t) hi
    unfold wp_X11_reads_L12 wp_X11_readsNet
    refine ⟨fun z => absurd z (by decide), fun _ => ⟨fun z => absurd h.2.2.1 z, fun _ => ⟨fun _ => ?_, fun z => absurd rfl z⟩⟩⟩
    exact ms_hereE hM (h.tb hb) h.2.2.2.1 hi (hp0 rfl _ 8 L (h.to _) hs.2)
  | succ d ih =>
    intro net i L I hd h hi hp1 hp0
    have hnet : net < 8 := by omega
    have hpos := ntT_pos (t := t) (n := n) hi
    have hs := skB_le (t := t) hpos.1
    simp only [rdT] at hp1 hp0
    unfold wp_X11_reads_L12
    refine ⟨fun z => absurd z (by decide), fun _ => ms_net hM (h.tb hb) h2 hn hnet h.ms hi (fun hok I1 j k1 k2 k3 k4 => ⟨fun z => absurd z (by decide), fun _ => ?_⟩) (fun hno I1 k1 => ⟨fun _ => ?_, fun z => absurd rfl z⟩)⟩
    · rw [hok] at hp1 hp0
      simp only at hp1 hp0
      have hp := h.of k1
      have hah : ahT t tm (ntT t tm n i).2.1 = ahT t tm j := by unfold ahT; rw [k3]
      have hskj := skB_le (t := t) k2
      have l1 := ahM_le (t := t) (i := j) (hp.tb hb)
      rw [hah, ← k3] at hp1 hp0
      unfold wp_X11_isStop
      refine ms_hereE hM (hp.tb hb) hp.2.2.2.1 k2 ?_
      have hq := hp.to (skB t tm j)
      have h30 : sti I1 287 21 (nI (skB t tm j)) 300 net = nI (ntT t tm n i).2.2 := by rw [sti_ne _ _ _ (by decide)]; exact k4
      have hmore := hq.more h30
      have e22 : sti I1 287 21 (nI (skB t tm j)) 287 22 = nI net := hq.2.2.1
      have cont : (∀ I4 : KI, PmI I0 I4 (net + 1) (upk L net (ntT t tm n i).2.2) (skB t tm j) → ((¬ chI (ahT t tm j) = (59 : Int32) → wp_X11_reads_L12 Q 287 post (fun I_12 => wp_X11_here I_12 Q 287 (fun r13 I13 => post (0 : Int32) I13)) (d + 2) (sti I4 287 21 ((I4 287 21) + (0 : Int32))) (0 : Int32)) ∧ (chI (ahT t tm j) = (59 : Int32) → wp_X11_reads_L12 Q 287 post (fun I_12 => wp_X11_here I_12 Q 287 (fun r13 I13 => post (0 : Int32) I13)) (d + 2) (sti I4 287 21 ((I4 287 21) + (1 : Int32))) (1 : Int32)))) → wp_X11_here (sti (sti I1 287 21 (nI (skB t tm j))) 287 22 ((sti I1 287 21 (nI (skB t tm j)) 287 22) + (1 : Int32))) Q 287 (fun r7 I7 => ((¬ r7 = (59 : Int32) → wp_X11_reads_L12 Q 287 post (fun I_12 => wp_X11_here I_12 Q 287 (fun r13 I13 => post (0 : Int32) I13)) (d + 2) (sti I7 287 21 ((I7 287 21) + (0 : Int32))) (0 : Int32)) ∧ (r7 = (59 : Int32) → wp_X11_reads_L12 Q 287 post (fun I_12 => wp_X11_here I_12 Q 287 (fun r13 I13 => post (0 : Int32) I13)) (d + 2) (sti I7 287 21 ((I7 287 21) + (1 : Int32))) (1 : Int32)))) := by
        intro hc
        rw [e22, nI_1]
        refine ms_hereE hM (hmore.tb hb) hmore.2.2.2.1 hskj.2 ?_
        rw [ahT_id k2, skB_id k2]
        exact hc _ (hmore.to _)
      cases h0 : decide (ahT t tm j = 0) with
      | true =>
        rw [h0] at hp1
        simp only at hp1
        have e0 := of_decide_eq_true h0
        refine ⟨fun _ => ⟨fun _ => cont (fun I4 g4 => ?_), fun z => absurd z (by decide)⟩, fun z => absurd (by rw [e0]; decide) z⟩
        rw [e0]
        refine ⟨fun _ => ?_, fun z => absurd z (by decide)⟩
        unfold wp_X11_reads_L12
        refine ⟨fun _ => ?_, fun z => absurd rfl z⟩
        rw [g4.2.2.2.1, show nI (skB t tm j) + (0 : Int32) = nI (skB t tm j) from nI_add _ 0]
        exact hp1 trivial _ _ (g4.to _) hskj.2
      | false =>
        rw [h0] at hp1 hp0
        simp only at hp1 hp0
        have e0 := of_decide_eq_false h0
        have hc : chI (ahT t tm j) = nI (ahT t tm j) := by unfold chI; rw [if_neg e0]
        refine ⟨fun z => absurd z (by rw [hc]; exact nI_pos (by omega)), fun _ => ?_⟩
        have h59' : (chI (ahT t tm j) = (59 : Int32)) = (ahT t tm j = 59) := propext (chI_eq (x := 59) l1.1 (by decide) (by decide))
        rw [h59']
        cases h59 : decide (ahT t tm j = 59) with
        | true =>
          rw [h59] at hp1 hp0
          simp only at hp1 hp0
          have e59 := of_decide_eq_true h59
          refine ⟨fun z => absurd e59 z, fun _ => ⟨fun _ => cont (fun I4 g4 => ?_), fun z => absurd z (by decide)⟩⟩
          rw [h59']
          refine ⟨fun z => absurd e59 z, fun _ => ?_⟩
          rw [g4.2.2.2.1, nI_1]
          have hnx : nxB t tm (ntT t tm n i).2.1 = skB t tm j + 1 := by unfold nxB; rw [k3]
          rw [hnx] at hp1 hp0
          exact ih (net + 1) (skB t tm j + 1) (upk L net (ntT t tm n i).2.2) _ (by omega) (g4.to _) (ahT_nx e0) hp1 hp0
        | false =>
          rw [h59] at hp0
          simp only at hp0
          have e59 := of_decide_eq_false h59
          refine ⟨fun _ => ⟨fun z => absurd rfl z, fun _ => ?_⟩, fun z => absurd z e59⟩
          refine ms_hereE hM (hq.tb hb) hq.2.2.2.1 hskj.2 ?_
          rw [skB_id k2]
          exact hp0 trivial _ _ _ (hq.to _) hskj.2
    · rw [hno] at hp0
      simp only at hp0
      have hp := h.of k1
      refine ms_hereE hM (hp.tb hb) hp.2.2.2.1 hpos.1 ?_
      rw [hpos.2 hno]
      exact hp0 trivial _ _ _ (hp.to _) hpos.1
theorem lp_mcopy {I0 : KI} {Q : KQ} {cnt : Nat} {L : Nat → Nat} {post : Int32 → KI → Prop} (hM : MdQ Q) (hc : cnt ≤ 8) (h22 : I0 287 22 = nI cnt) (h300 : ∀ x, x < cnt → I0 300 x = nI (L x)) (hp : ∀ I', (∀ q, q ≠ 288 → I' q = I0 q) → (∀ j, (j < 7 ∨ 15 ≤ j) → I' 288 j = I0 288 j) → (∀ x, x < cnt → I' 288 (7 + x) = nI (L x)) → post (nI cnt) I') : ∀ d k I, k + d = 8 → (∀ q, q ≠ 288 → I q = I0 q) → (∀ j, (j < 7 ∨ 15 ≤ j) → I 288 j = I0 288 j) → (∀ x, x < k → x < cnt → I 288 (7 + x) = nI (L x)) → wp_X11_read_L59 Q 287 post (d + 1) I (nI k) := by
  intro d
  induction d with
  | zero =>
    intro k I hk w1 w2 w3
    have : k = 8 := by omega
    subst this
    unfold wp_X11_read_L59
    refine br_t (by decide) ?_
    rw [w1 287 (by decide), h22]
    exact hp I w1 w2 (fun x hx => w3 x (by omega) hx)
  | succ d ih =>
    intro k I hk w1 w2 w3
    unfold wp_X11_read_L59
    rw [w1 287 (by decide), h22, hM.now, hM.newPlan, show (7 : Int32) + nI k = nI (7 + k) from nI_add 7 k, nI_clamp (n := 7 + k) (by omega), nI_clamp (n := k) (by omega), nI_1]
    have go : ∀ x : Int32, (k < cnt → x = nI (L k)) → wp_X11_read_L59 Q 287 post (d + 1) (sti I 288 (7 + k) x) (nI (k + 1)) := fun x hx => ih (k + 1) _ (by omega) (fun q hq => by rw [sti_ne _ _ _ hq]; exact w1 q hq) (fun j hj => by rw [sti_at, pk_un (by omega)]; exact w2 j hj) (fun y hy hyc => by
      rw [sti_at]
      by_cases hyk : y = k
      · subst hyk; rw [pk_us]; exact hx hyc
      · rw [pk_un (by omega)]; exact w3 y (by omega) hyc)
    refine br_f (nI_ge (b := 8) (by omega) (by decide)) ⟨fun c => ⟨vp_in_nI (by omega) (by decide), go _ (fun z => ?_)⟩, fun c => ⟨vp_in_nI (by omega) (by decide), vp_in_nI (by omega) (by decide), go _ (fun z => ?_)⟩⟩
    · have := (nI_leI (by omega) (by omega)).mp c
      omega
    · rw [w1 300 (by decide)]
      exact h300 k z
/-! what is read is links -/
theorem rwT_fin {t : Nat → Nat} {tm n : Nat} (h2 : 2 ≤ n) : ∀ d c i met f l p, c + d = n → RwI n met f l c → (rwT t tm n d i met f l p).1 = true → (rwT t tm n d i met f l p).2.2.2.1 < n ∧ (rwT t tm n d i met f l p).2.2.2.2 < n ∧ (rwT t tm n d i met f l p).2.2.2.1 ≠ (rwT t tm n d i met f l p).2.2.2.2 := by
  intro d
  induction d with
  | zero =>
    intro c i met f l p hc hR _
    obtain ⟨q1, q2, q3, q4, q5⟩ := hR.2.2.2.1 (by omega)
    exact ⟨q2, q3, hR.2.2.2.2 (by omega)⟩
  | succ d ih =>
    intro c i met f l p hc hR
    simp only [rwT]
    cases hf : fuT t tm n i with
    | none => intro z; cases z
    | some v =>
      simp only
      cases hb : met.testBit v with
      | true => intro z; cases z
      | false =>
        obtain ⟨v1, -, -⟩ := fuT_some hf
        exact ih (c + 1) _ _ _ _ _ (by omega) (hR.step v1 hb)
theorem lkT_lt {t : Nat → Nat} {tm n : Nat} (hn : n ≤ 6) : ∀ d i p, p < 2 ^ (n * (n - 1) / 2) → (lkT t tm n d i p).2.2 < 2 ^ (n * (n - 1) / 2) := by
  intro d
  induction d with
  | zero => intro i p hp; exact hp
  | succ d ih =>
    intro i p hp
    simp only [lkT]
    cases hf : fuT t tm n i with
    | none => exact hp
    | some a =>
      obtain ⟨a1, -, -⟩ := fuT_some hf
      simp only
      cases decide (ahT t tm (nxB t tm i) = 45) with
      | false => exact hp
      | true =>
        simp only
        cases hf2 : fuT t tm n (nxB t tm (nxB t tm i)) with
        | none => exact hp
        | some b =>
          obtain ⟨b1, -, -⟩ := fuT_some hf2
          simp only
          cases hab : (decide (a = b) || p.testBit (pi2 a b)) with
          | true => exact hp
          | false =>
            rw [Bool.or_eq_false_iff] at hab
            have hne := of_decide_eq_false hab.1
            have hp2 : p ||| 2 ^ pi2 a b < 2 ^ (n * (n - 1) / 2) := Nat.or_lt_two_pow hp (Nat.pow_lt_pow_right (by omega) (pi2_lt n hn a a1 b b1 hne))
            simp only
            cases decide (ahT t tm (nxB t tm (nxB t tm (nxB t tm i))) = 44) with
            | true => exact ih _ _ hp2
            | false => exact hp2
theorem saT_lt {v p n : Nat} (hn : n ≤ 6) (hv : v < n) (hp : p < 2 ^ (n * (n - 1) / 2)) : ∀ u, u ≤ n → saT v p u < 2 ^ (n * (n - 1) / 2) := by
  intro u
  induction u with
  | zero => intro _; exact hp
  | succ u ih =>
    intro hu
    simp only [saT]
    by_cases h : u = v
    · rw [if_pos h]; exact ih (by omega)
    · rw [if_neg h]
      exact Nat.or_lt_two_pow (ih (by omega)) (Nat.pow_lt_pow_right (by omega) (pi2_lt n hn u (by omega) v hv h))
theorem ntT_lt {t : Nat → Nat} {tm n i : Nat} (h2 : 2 ≤ n) (hn : n ≤ 6) (hok : (ntT t tm n i).1 = true) : (ntT t tm n i).2.2 < 2 ^ (n * (n - 1) / 2) := by
  have h0 := Nat.two_pow_pos (n * (n - 1) / 2)
  have hr := rwT_lt (t := t) (tm := tm) hn n (weB t tm (skB t tm i)) 0 0 0 0 0 (RwI.zero n) h0
  unfold ntT at hok ⊢
  split
  · exact hr
  · rename_i n0
    rw [if_neg n0] at hok
    split
    · rename_i n1
      rw [if_pos n1] at hok
      obtain ⟨f1, f2, f3⟩ := rwT_fin (t := t) (tm := tm) h2 n 0 (weB t tm (skB t tm i)) 0 0 0 0 (by omega) (RwI.zero n) hok
      exact Nat.or_lt_two_pow hr (Nat.pow_lt_pow_right (by omega) (pi2_lt n hn _ f2 _ f1 (fun z => f3 z.symm)))
    · rename_i n1
      rw [if_neg n1] at hok
      split
      · cases hf : fuT t tm n (weB t tm (skB t tm i)) with
        | none => exact h0
        | some v => exact saT_lt hn (fuT_some hf).1 h0 n (Nat.le_refl n)
      · split
        · exact lkT_lt hn _ _ _ h0
        · split
          · show alT n n < _
            rw [alT_all n (by omega) h2]
            omega
          · exact h0
theorem rdT_ok {t : Nat → Nat} {tm n : Nat} (h2 : 2 ≤ n) (hn : n ≤ 6) : ∀ d net i L, net + d = 8 → (∀ x, x < net → L x < 2 ^ (n * (n - 1) / 2)) → (rdT t tm n d net i L).1 = true → 1 ≤ (rdT t tm n d net i L).2.2.1 ∧ (rdT t tm n d net i L).2.2.1 ≤ 8 ∧ ∀ x, x < (rdT t tm n d net i L).2.2.1 → (rdT t tm n d net i L).2.2.2 x < 2 ^ (n * (n - 1) / 2) := by
  intro d
  induction d with
  | zero => intro net i L _ _ hok; cases hok
  | succ d ih =>
    intro net i L hd hL
    simp only [rdT]
    cases hok : (ntT t tm n i).1 with
    | false => intro z; cases z
    | true =>
      have hlt := ntT_lt h2 hn hok
      have hL2 : ∀ x, x < net + 1 → upk L net (ntT t tm n i).2.2 x < 2 ^ (n * (n - 1) / 2) := fun x hx => by
        by_cases hxn : x = net
        · subst hxn; rw [upk_s]; exact hlt
        · rw [upk_n hxn]; exact hL x (by omega)
      simp only
      cases decide (ahT t tm (ntT t tm n i).2.1 = 0) with
      | true => intro _; exact ⟨by show 1 ≤ net + 1; omega, by show net + 1 ≤ 8; omega, hL2⟩
      | false =>
        simp only
        cases decide (ahT t tm (ntT t tm n i).2.1 = 59) with
        | true => exact ih _ _ _ (by omega) hL2
        | false => intro z; cases z
theorem RelR.tp {I I' : KI} {J : KJ} {Q Q' : KQ} {b : Nat} (h : RelR I J Q b) (hQ : ∀ k, k ≠ 19 → Q' k = Q k) (f1 : ∀ q, (q = 0 ∨ (122 ≤ q ∧ q < 243) ∨ (279 ≤ q ∧ q ≤ 286) ∨ q = 290 ∨ q = 301 ∨ q = 302) → I' q = I q) (f2 : I' 274 2 = 0) (f3 : ∀ j, (4 ≤ j ∧ j ≤ 6) → I' 287 j = I 287 j) (f4 : I' 287 20 = 0) : RelR I' J Q' b := by
  obtain ⟨h1, ⟨π, h2, h3⟩, -, h5⟩ := h
  refine ⟨h1.fr hQ, ⟨π, h2.fr (fun k _ _ => hQ k (by omega)), ?_⟩, ⟨0, by omega, f2, f4, fun j hj => absurd hj (Nat.not_lt_zero j)⟩, fun s hs => ?_⟩
  · rcases h3 with ⟨q1, q2⟩ | ⟨q1, q2, S, hs, m, r1, r2, r3, r4, r5, r6⟩
    · exact Or.inl ⟨by rw [f1 0 (by omega)]; exact q1, by rw [f3 4 (by omega)]; exact q2⟩
    · refine Or.inr ⟨by rw [f1 0 (by omega)]; exact q1, by rw [f3 4 (by omega)]; exact q2, S, hs, m, r1.fr (fun k _ _ => f1 k (by omega)), r2.fr h2 (fun k _ _ => f1 k (by omega)), by rw [f1 290 (by omega)]; exact r3, by rw [f3 5 (by omega)]; exact r4, ?_, r6⟩
      rw [f1 290 (by omega), f3 6 (by omega)]
      exact r5
  · rw [f1 (279 + 2 * s) (by omega), f1 301 (by omega), f1 302 (by omega)]
    exact h5 s hs
