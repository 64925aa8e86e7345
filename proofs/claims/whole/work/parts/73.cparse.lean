/-! PURE, 36: a net, a text, as the class reads them -/
theorem rwT_pos {t : Nat → Nat} {tm n : Nat} : ∀ d i met f l p, i ≤ tm → (rwT t tm n d i met f l p).2.1 ≤ tm ∧ ((rwT t tm n d i met f l p).1 = false → skB t tm (rwT t tm n d i met f l p).2.1 = (rwT t tm n d i met f l p).2.1) := by
  intro d
  induction d with
  | zero => intro i met f l p hi; exact ⟨hi, fun z => by cases z⟩
  | succ d ih =>
    intro i met f l p hi
    have hs := skB_le (t := t) hi
    simp only [rwT]
    cases hf : fuT t tm n i with
    | none => exact ⟨hs.2, fun _ => skB_id hi⟩
    | some v =>
      obtain ⟨-, -, h3⟩ := fuT_some hf
      simp only
      cases met.testBit v with
      | true => exact ⟨hs.2, fun _ => skB_id hi⟩
      | false => exact ih _ _ _ _ _ h3
theorem lkT_pos {t : Nat → Nat} {tm n : Nat} : ∀ d i p, i ≤ tm → tm < i + d → (lkT t tm n d i p).2.1 ≤ tm ∧ skB t tm (lkT t tm n d i p).2.1 = (lkT t tm n d i p).2.1 := by
  intro d
  induction d with
  | zero => intro i p hi hd; omega
  | succ d ih =>
    intro i p hi hd
    have s1 := skB_le (t := t) hi
    simp only [lkT]
    cases hf : fuT t tm n i with
    | none => exact ⟨s1.2, skB_id hi⟩
    | some a =>
      obtain ⟨-, -, a3⟩ := fuT_some hf
      have a3 : nxB t tm i ≤ tm := a3
      have s2 := skB_le (t := t) a3
      simp only
      cases h45 : decide (ahT t tm (nxB t tm i) = 45) with
      | false => exact ⟨s2.2, skB_id a3⟩
      | true =>
        have a4 : nxB t tm (nxB t tm i) ≤ tm := ahT_nx (by rw [of_decide_eq_true h45]; decide)
        have s3 := skB_le (t := t) a4
        simp only
        cases hf2 : fuT t tm n (nxB t tm (nxB t tm i)) with
        | none => exact ⟨s3.2, skB_id a4⟩
        | some b =>
          obtain ⟨-, -, b3⟩ := fuT_some hf2
          have b3 : nxB t tm (nxB t tm (nxB t tm i)) ≤ tm := b3
          have s4 := skB_le (t := t) b3
          simp only
          cases (decide (a = b) || p.testBit (pi2 a b)) with
          | true => exact ⟨s3.2, skB_id a4⟩
          | false =>
            simp only
            cases h44 : decide (ahT t tm (nxB t tm (nxB t tm (nxB t tm i))) = 44) with
            | false => exact ⟨s4.2, skB_id b3⟩
            | true =>
              have a5 : nxB t tm (nxB t tm (nxB t tm (nxB t tm i))) ≤ tm := ahT_nx (by rw [of_decide_eq_true h44]; decide)
              have hx1 : nxB t tm i = skB t tm i + 1 := rfl
              have hx2 : nxB t tm (nxB t tm i) = skB t tm (nxB t tm i) + 1 := rfl
              have hx3 : nxB t tm (nxB t tm (nxB t tm i)) = skB t tm (nxB t tm (nxB t tm i)) + 1 := rfl
              have hx4 : nxB t tm (nxB t tm (nxB t tm (nxB t tm i))) = skB t tm (nxB t tm (nxB t tm (nxB t tm i))) + 1 := rfl
              exact ih _ _ a5 (by omega)
theorem ntT_pos {t : Nat → Nat} {tm n i : Nat} (hi : i ≤ tm) : (ntT t tm n i).2.1 ≤ tm ∧ ((ntT t tm n i).1 = false → skB t tm (ntT t tm n i).2.1 = (ntT t tm n i).2.1) := by
  have hs := skB_le (t := t) hi
  have hw := weB_le (t := t) hs.2
  have hr := rwT_pos (t := t) (tm := tm) (n := n) n (weB t tm (skB t tm i)) 0 0 0 0 hw.2.1
  have hl := lkT_pos (t := t) (tm := tm) (n := n) (tm + 1 - weB t tm (skB t tm i)) (weB t tm (skB t tm i)) 0 hw.2.1 (by omega)
  unfold ntT
  split
  · exact hr
  · split
    · exact hr
    · split
      · cases hf : fuT t tm n (weB t tm (skB t tm i)) with
        | none => exact ⟨(skB_le hw.2.1).2, fun _ => skB_id hw.2.1⟩
        | some v => exact ⟨(fuT_some hf).2.2, fun z => by cases z⟩
      · split
        · exact ⟨hl.1, fun _ => hl.2⟩
        · split
          · exact ⟨hw.2.1, fun z => by cases z⟩
          · exact ⟨hs.2, fun _ => skB_id hi⟩
theorem sp_row2 {I0 I : KI} {Q : KQ} {net n tm e : Nat} {x : Int32} {t : Nat → Nat} {post : Int32 → KI → Prop} (h7 : rq Q 274 0 = 275) (h8 : rq Q 274 1 = 276) (h9 : rq Q 276 0 = 277) (hb : TbC I0 t tm n) (h2 : 2 ≤ n) (hn : n ≤ 6) (hnet : net < 8) (h : CsI I0 I net 0 n e) (he : e ≤ tm) (hp1 : (rwT t tm n n e 0 0 0 0).1 = true → ∀ I', CsI I0 I' net (if x = 0 then (rwT t tm n n e 0 0 0 0).2.2.1 else (rwT t tm n n e 0 0 0 0).2.2.1 ||| 2 ^ pi2 (rwT t tm n n e 0 0 0 0).2.2.2.2 (rwT t tm n n e 0 0 0 0).2.2.2.1) n (rwT t tm n n e 0 0 0 0).2.1 → post 1 I') (hp0 : (rwT t tm n n e 0 0 0 0).1 = false → ∀ p I', CsI I0 I' net p n (rwT t tm n n e 0 0 0 0).2.1 → post 0 I') : wp_X8_isRow I Q 274 (nI net) x post := by
  unfold wp_X8_isRow
  refine ⟨n + 1, ?_⟩
  have := lp_crow (post := post) (kk := fun I_11 x4_11 x5_11 => ((x = 0 → post (1 : Int32) I_11) ∧ (¬ x = 0 → wp_X4_link I_11 Q (rq Q 274 1) (nI net) x5_11 x4_11 (fun I14 => post (1 : Int32) I14)))) h7 h8 h9 hb h2 hn hnet n 0 e 0 0 0 0 I (by omega) h he (RwI.zero n) (fun hok I' f' l' k1 k2 k3 k4 k5 k6 k7 => ⟨fun z => ?_, fun z => ?_⟩) (fun hno I' k1 => hp0 hno _ I' k1)
  · exact this
  · have h := hp1 hok I'
    rw [if_pos z] at h
    exact h k1
  · rw [h8]
    refine sp_link hnet hn k6 k5 (fun y => k7 y.symm) (by rw [h9]; exact k1.2.2.2.1) (fun g w1 w2 => ?_)
    rw [h9] at w2 ⊢
    have h := hp1 hok (upk I' 277 g)
    rw [if_neg z] at h
    rw [k3, k4] at w1
    exact h (k1.link w1 w2)
theorem sp_net {I0 I : KI} {Q : KQ} {net n tm i : Nat} {t : Nat → Nat} {post : Int32 → KI → Prop} (h7 : rq Q 274 0 = 275) (h8 : rq Q 274 1 = 276) (h9 : rq Q 276 0 = 277) (hb : TbC I0 t tm n) (h2 : 2 ≤ n) (hn : n ≤ 6) (hnet : net < 8) (h : CsI I0 I net 0 n i) (hi : i ≤ tm) (hp1 : (ntT t tm n i).1 = true → ∀ I', CsI I0 I' net (ntT t tm n i).2.2 n (ntT t tm n i).2.1 → post 1 I') (hp0 : (ntT t tm n i).1 = false → ∀ p I', CsI I0 I' net p n (ntT t tm n i).2.1 → post 0 I') : wp_X8_isNet I Q 274 (nI net) post := by
  have hs := skB_le (t := t) hi
  have hw := weB_le (t := t) hs.2
  unfold wp_X8_isNet
  refine sp_ahead h7 hb h hi (fun I1 g1 => ⟨tm - skB t tm i + 1, lp_cword h7 hb (tm - skB t tm i) (skB t tm i) I1 (by omega) g1 (fun I2 g2 => ?_)⟩)
  have e1 : I1 274 3 = nI (skB t tm i) := g1.2.2.1
  have g2 : CsI I0 I2 net 0 n (weB t tm (skB t tm i)) := g2
  have tb2 := g2.tb hb
  have nm : ∀ {k : Nat} {po : Int32 → Prop}, k < 5 → po (bI (nmB t (skB t tm i) (weB t tm (skB t tm i)) k)) → wp_X8_isName I2 Q 274 (nI (skB t tm i)) k po := fun hk hp => sp_isName h7 tb2 hk g2.2.2.1 hw.1 hw.2.1 hp
  rw [e1]
  unfold ntT at hp1 hp0
  refine nm (by decide) ?_
  cases n0 : nmB t (skB t tm i) (weB t tm (skB t tm i)) 0 with
  | true =>
    rw [if_pos n0] at hp1 hp0
    exact ⟨fun z => absurd z (by decide), fun _ => sp_row2 (x := 0) h7 h8 h9 hb h2 hn hnet g2 hw.2.1 (fun hok I' k => ⟨Or.inr rfl, hp1 hok I' k⟩) (fun hno p I' k => ⟨Or.inl rfl, hp0 hno p I' k⟩)⟩
  | false =>
    rw [if_neg (by rw [n0]; decide)] at hp1 hp0
    refine ⟨fun _ => nm (by decide) ?_, fun z => absurd rfl z⟩
    cases n1 : nmB t (skB t tm i) (weB t tm (skB t tm i)) 1 with
    | true =>
      rw [if_pos n1] at hp1 hp0
      exact ⟨fun z => absurd z (by decide), fun _ => sp_row2 (x := 1) h7 h8 h9 hb h2 hn hnet g2 hw.2.1 (fun hok I' k => ⟨Or.inr rfl, hp1 hok I' k⟩) (fun hno p I' k => ⟨Or.inl rfl, hp0 hno p I' k⟩)⟩
    | false =>
      rw [if_neg (by rw [n1]; decide)] at hp1 hp0
      refine ⟨fun _ => nm (by decide) ?_, fun z => absurd rfl z⟩
      cases n2 : nmB t (skB t tm i) (weB t tm (skB t tm i)) 2 with
      | true =>
        rw [if_pos n2] at hp1 hp0
        refine ⟨fun z => absurd z (by decide), fun _ => ?_⟩
        unfold wp_X8_isStar
        refine sp_figure h7 hb hn g2 hw.2.1 (fun I3 g3 => ?_)
        cases hf : fuT t tm n (weB t tm (skB t tm i)) with
        | none =>
          rw [hf] at hp0
          exact ⟨fun z => absurd z (by decide), fun _ => ⟨Or.inl rfl, hp0 rfl _ I3 g3⟩⟩
        | some v =>
          rw [hf] at hp1
          obtain ⟨v1, v2, v3⟩ := fuT_some hf
          exact ⟨fun _ => sp_linkAll h8 h9 hb.2.2.1 hn hnet v1 g3.up (fun I4 g4 => ⟨Or.inr rfl, hp1 rfl I4 g4⟩), fun z => absurd (nI_pos' (show v < 2 ^ 31 by omega)) z⟩
      | false =>
        rw [if_neg (by rw [n2]; decide)] at hp1 hp0
        refine ⟨fun _ => nm (by decide) ?_, fun z => absurd rfl z⟩
        cases n3 : nmB t (skB t tm i) (weB t tm (skB t tm i)) 3 with
        | true =>
          rw [if_pos n3] at hp1 hp0
          refine ⟨fun z => absurd z (by decide), fun _ => ?_⟩
          unfold wp_X8_isLinks
          rw [h8]
          refine ⟨tm + 1 - weB t tm (skB t tm i), lp_links (post := fun r27 I27 => ((r27 = 0 ∨ r27 = 1) ∧ post r27 I27)) h7 h8 h9 hb h2 hn hnet (tm + 1 - weB t tm (skB t tm i)) 0 (weB t tm (skB t tm i)) 0 I2 (by omega) hw.2.1 (by omega) g2 (fun I' k => ⟨bI_01 _, ?_⟩)⟩
          cases hl : (lkT t tm n (tm + 1 - weB t tm (skB t tm i)) (weB t tm (skB t tm i)) 0).1 with
          | true => exact hp1 hl I' k
          | false => exact hp0 hl _ I' k
        | false =>
          rw [if_neg (by rw [n3]; decide)] at hp1 hp0
          refine ⟨fun _ => nm (by decide) ?_, fun z => absurd rfl z⟩
          cases n4 : nmB t (skB t tm i) (weB t tm (skB t tm i)) 4 with
          | true =>
            rw [if_pos n4] at hp1 hp0
            exact ⟨fun z => absurd z (by decide), fun _ => ⟨n + 1, lp_all h8 h9 hb.2.2.1 hn hnet (fun I' k => hp1 rfl I' k) n 0 I2 (by omega) g2⟩⟩
          | false =>
            rw [if_neg (by rw [n4]; decide)] at hp1 hp0
            exact ⟨fun _ => hp0 rfl _ _ (g2.to (skB t tm i)), fun z => absurd rfl z⟩
/-- the sets of links that have been read -/
def PlI (I0 I : KI) (cnt : Nat) (L : Nat → Nat) (n : Nat) : Prop := (∀ q, q ≠ 274 → q ≠ 276 → q ≠ 277 → I q = I0 q) ∧ (∀ j, j ≠ 3 → I 274 j = I0 274 j) ∧ ∀ i, i < cnt → RowL (I 277) i (L i) n
theorem PlI.tb {I0 I : KI} {cnt n tm : Nat} {L t : Nat → Nat} (h : PlI I0 I cnt L n) (hb : TbC I0 t tm n) : TbC I t tm n := by
  obtain ⟨h1, h2, h3⟩ := h
  obtain ⟨b1, b2, b3, b4⟩ := hb
  exact ⟨b1, by rw [h2 2 (by decide)]; exact b2, by rw [h2 4 (by decide)]; exact b3, fun j hj => by rw [h1 275 (by decide) (by decide) (by decide)]; exact b4 j hj⟩
theorem lp_parse {I0 : KI} {Q : KQ} {n tm : Nat} {t : Nat → Nat} {post : Int32 → KI → Prop} (h7 : rq Q 274 0 = 275) (h8 : rq Q 274 1 = 276) (h9 : rq Q 276 0 = 277) (hb : TbC I0 t tm n) (h2 : 2 ≤ n) (hn : n ≤ 6) : ∀ d net i L I, net + d = 8 → PlI I0 I net L n → I 274 3 = nI i → i ≤ tm → ((rdT t tm n d net i L).1 = true → ∀ I', PlI I0 I' (rdT t tm n d net i L).2.2.1 (rdT t tm n d net i L).2.2.2 n → I' 276 1 = nI (rdT t tm n d net i L).2.2.1 → post (nI (rdT t tm n d net i L).2.2.1) I') → ((rdT t tm n d net i L).1 = false → ∀ I', (∀ q, q ≠ 274 → q ≠ 276 → q ≠ 277 → I' q = I0 q) → (∀ j, j ≠ 3 → I' 274 j = I0 274 j) → post ((-20 : Int32) - nI (rdT t tm n d net i L).2.1) I') → wp_X8_parse_L12 Q 274 post (fun I_12 => wp_X8_ahead I_12 Q 274 (fun r13 I13 => post ((-20 : Int32) - (I13 274 3)) I13)) (d + 1) I (nI net) := by
  intro d
  induction d with
  | zero =>
    intro net i L I hd h h3 hi hp1 hp0
    have : net = 8 := by omega
    subst this
    obtain ⟨b1, b2, b3, b4⟩ := h.tb hb
    unfold wp_X8_parse_L12
    refine br_t (by decide) ?_
    have hcs : CsI I I 0 0 0 i → True := fun _ => trivial
    unfold wp_X8_ahead
    have hla := lp_ahead (I0 := I) (net := 0) (p := L 0) (kk := fun I_6 => (((I_6 274 2) ≤ (I_6 274 3) → post ((-20 : Int32) - (I_6 274 3)) I_6) ∧ (¬ (I_6 274 2) ≤ (I_6 274 3) → (vp_in (I_6 274 3) 90 ∧ post ((-20 : Int32) - (I_6 274 3)) I_6)))) h7 ⟨b1, b2, b3, b4⟩ (tm - i) i I (by omega) ⟨fun _ _ _ => rfl, fun _ _ => rfl, h3, h.2.2 0 (by decide), fun _ _ => rfl⟩ (fun I' g => ?_)
    · exact ⟨tm - i + 1, hla⟩
    · have hs := skB_le (t := t) hi
      have e3 : I' 274 3 = nI (skB t tm i) := g.2.2.1
      have e2 : I' 274 2 = nI tm := by rw [g.2.1 2 (by decide)]; exact b2
      have hfin : post ((-20 : Int32) - nI (skB t tm i)) I' := hp0 rfl I' (fun q q1 q2 q3 => by rw [g.1 q q1 q3]; exact h.1 q q1 q2 q3) (fun j hj => by rw [g.2.1 j hj]; exact h.2.1 j hj)
      show (_ ∧ _)
      rw [e2, e3]
      refine ⟨fun _ => hfin, fun c => ⟨vp_in_nI ?_ (by decide), hfin⟩⟩
      have : ¬ tm ≤ skB t tm i := fun z => c (nI_le z (by omega))
      omega
  | succ d ih =>
    intro net i L I hd h h3 hi hp1 hp0
    have hnet : net < 8 := by omega
    have tb := h.tb hb
    unfold wp_X8_parse_L12
    rw [h8]
    refine br_f (nI_ge (b := 8) hnet (by decide)) (sp_begin hnet (by rw [h9]; decide) (fun g k1 k2 => ?_))
    rw [h9] at k2 ⊢
    obtain ⟨Ib, hIb⟩ : ∃ Ib, Ib = sti (upk I 277 g) 276 1 (nI (net + 1)) := ⟨_, rfl⟩
    rw [← hIb]
    have eb : ∀ q, q ≠ 276 → q ≠ 277 → Ib q = I q := fun q q1 q2 => by rw [hIb, sti_ne _ _ _ q1, upk_n q2]
    have eb7 : Ib 277 = g := by rw [hIb, sti_ne _ _ _ (by decide), upk_s]
    have eb6 : Ib 276 1 = nI (net + 1) := by rw [hIb, sti_at, pk_us]
    have tbb : TbC Ib t tm n := by
      obtain ⟨b1, b2, b3, b4⟩ := tb
      exact ⟨b1, by rw [eb 274 (by decide) (by decide)]; exact b2, by rw [eb 274 (by decide) (by decide)]; exact b3, fun j hj => by rw [eb 275 (by decide) (by decide)]; exact b4 j hj⟩
    have cs0 : CsI Ib Ib net 0 n i := ⟨fun _ _ _ => rfl, fun _ _ => rfl, by rw [eb 274 (by decide) (by decide)]; exact h3, by rw [eb7]; exact k1 n, fun _ _ => rfl⟩
    have old : ∀ {p j : Nat} {I' : KI}, CsI Ib I' net p n j → (∀ q, q ≠ 274 → q ≠ 276 → q ≠ 277 → I' q = I0 q) ∧ (∀ j, j ≠ 3 → I' 274 j = I0 274 j) := fun {p j I'} hc => ⟨fun q q1 q2 q3 => by rw [hc.1 q q1 q3, eb q q2 q3]; exact h.1 q q1 q2 q3, fun j hj => by rw [hc.2.1 j hj, eb 274 (by decide) (by decide)]; exact h.2.1 j hj⟩
    have pl : ∀ {p j : Nat} {I' : KI}, CsI Ib I' net p n j → PlI I0 I' (net + 1) (upk L net p) n := fun {p j I'} hc => ⟨(old hc).1, (old hc).2, fun x hx => by
      by_cases hxn : x = net
      · subst hxn; rw [upk_s]; exact hc.2.2.2.1
      · rw [upk_n hxn]
        intro v hv
        rw [hc.2.2.2.2 (6 * x + v) (by omega), eb7, k2 (6 * x + v) (Or.inl (by omega))]
        exact h.2.2 x (by omega) v hv⟩
    have hpos := ntT_pos (t := t) (n := n) hi
    have hs := skB_le (t := t) hpos.1
    simp only [rdT] at hp1 hp0
    refine sp_net h7 h8 h9 tbb h2 hn hnet cs0 hi (fun hok I1 g1 => ⟨fun _ => sp_ahead h7 tbb g1 hpos.1 (fun I2 g2 => ?_), fun z => absurd z (by decide)⟩) (fun hno p I1 g1 => ⟨fun z => absurd rfl z, fun _ => ?_⟩)
    · rw [hok] at hp1 hp0
      simp only at hp1 hp0
      have l1 := ahT_le (t := t) (i := (ntT t tm n i).2.1) hb
      have e3 : I2 274 3 = nI (skB t tm (ntT t tm n i).2.1) := g2.2.2.1
      have e6 : I2 276 1 = nI (net + 1) := by rw [g2.1 276 (by decide) (by decide)]; exact eb6
      cases h0 : decide (ahT t tm (ntT t tm n i).2.1 = 0) with
      | true =>
        rw [h0] at hp1
        simp only at hp1
        have e0 := of_decide_eq_true h0
        rw [e0]
        refine ⟨fun z => absurd rfl z, fun _ => ?_⟩
        rw [e6]
        exact hp1 trivial I2 (pl g2) e6
      | false =>
        rw [h0] at hp1 hp0
        simp only at hp1 hp0
        have e0 := of_decide_eq_false h0
        have hne : ¬ chI (ahT t tm (ntT t tm n i).2.1) = -1 := by
          unfold chI
          rw [if_neg e0]
          exact nI_nm1 (by omega)
        refine ⟨fun _ => ?_, fun z => absurd z hne⟩
        show ((chI (ahT t tm (ntT t tm n i).2.1) = nI 59 → _) ∧ (¬ chI (ahT t tm (ntT t tm n i).2.1) = nI 59 → _))
        rw [chI_eq l1.1 (by decide) (by decide)]
        cases h59 : decide (ahT t tm (ntT t tm n i).2.1 = 59) with
        | true =>
          rw [h59] at hp1 hp0
          simp only at hp1 hp0
          refine br_t (of_decide_eq_true h59) ?_
          rw [nI_1]
          have g3 := g2.up
          exact ih (net + 1) (nxB t tm (ntT t tm n i).2.1) (upk L net (ntT t tm n i).2.2) _ (by omega) (pl g3) g3.2.2.1 (ahT_nx e0) hp1 hp0
        | false =>
          rw [h59] at hp0
          simp only at hp0
          refine br_f (of_decide_eq_false h59) ?_
          rw [e3]
          exact hp0 trivial I2 (old g2).1 (old g2).2
    · rw [hno] at hp0
      simp only at hp0
      rw [g1.2.2.1]
      exact hp0 trivial I1 (old g1).1 (old g1).2
theorem sp_parse {I : KI} {Q : KQ} {n tm : Nat} {t : Nat → Nat} {post : Int32 → KI → Prop} (h7 : rq Q 274 0 = 275) (h8 : rq Q 274 1 = 276) (h9 : rq Q 276 0 = 277) (htm : tm ≤ 90) (hI : I 274 2 = nI tm) (ht : ∀ j, j < tm → I 275 j = nI (t j) ∧ 32 ≤ t j ∧ t j ≤ 126) (h2 : 2 ≤ n) (hn : n ≤ 6) (hp1 : (rdT t tm n 8 0 0 (fun _ => 0)).1 = true → ∀ I', (∀ q, q ≠ 274 → q ≠ 276 → q ≠ 277 → I' q = I q) → (∀ j, j ≠ 3 → j ≠ 4 → I' 274 j = I 274 j) → (∀ i, i < (rdT t tm n 8 0 0 (fun _ => 0)).2.2.1 → RowL (I' 277) i ((rdT t tm n 8 0 0 (fun _ => 0)).2.2.2 i) n) → I' 276 1 = nI (rdT t tm n 8 0 0 (fun _ => 0)).2.2.1 → post (nI (rdT t tm n 8 0 0 (fun _ => 0)).2.2.1) I') (hp0 : (rdT t tm n 8 0 0 (fun _ => 0)).1 = false → ∀ I', (∀ q, q ≠ 274 → q ≠ 276 → q ≠ 277 → I' q = I q) → (∀ j, j ≠ 3 → j ≠ 4 → I' 274 j = I 274 j) → post ((-20 : Int32) - nI (rdT t tm n 8 0 0 (fun _ => 0)).2.1) I') : wp_X8_parse I Q 274 (nI n) post := by
  unfold wp_X8_parse
  obtain ⟨I0, hI0⟩ : ∃ I0, I0 = sti (sti I 274 4 (nI n)) 274 3 0 := ⟨_, rfl⟩
  rw [← hI0]
  have e1 : ∀ q, q ≠ 274 → I0 q = I q := fun q hq => by rw [hI0, sti_ne _ _ _ hq, sti_ne _ _ _ hq]
  have e2 : ∀ j, j ≠ 3 → j ≠ 4 → I0 274 j = I 274 j := fun j j1 j2 => by rw [hI0, sti_at, pk_un j1, sti_at, pk_un j2]
  have hb : TbC I0 t tm n := ⟨htm, by rw [e2 2 (by decide) (by decide)]; exact hI, by rw [hI0, sti_at, pk_un (by decide), sti_at, pk_us], fun j hj => by rw [e1 275 (by decide)]; exact ht j hj⟩
  refine ⟨9, lp_parse h7 h8 h9 hb h2 hn 8 0 0 (fun _ => 0) I0 rfl ⟨fun _ _ _ _ => rfl, fun _ _ => rfl, fun i hi => absurd hi (Nat.not_lt_zero i)⟩ (by rw [hI0, sti_at, pk_us]; rfl) (Nat.zero_le _) (fun hok I' k1 k2 => hp1 hok I' (fun q q1 q2 q3 => by rw [k1.1 q q1 q2 q3, e1 q q1]) (fun j j1 j2 => by rw [k1.2.1 j j1, e2 j j1 j2]) k1.2.2 k2) (fun hno I' k1 k2 => hp0 hno I' (fun q q1 q2 q3 => by rw [k1 q q1 q2 q3, e1 q q1]) (fun j j1 j2 => by rw [k2 j j1, e2 j j1 j2]))⟩
