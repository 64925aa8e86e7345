/-! PURE, 35: star, all, links, names, as the class reads them -/
theorem pi2_lt6 {a b : Nat} (ha : a < 6) (hb : b < 6) (h : a ≠ b) : pi2 a b < 15 := (pi_lo ha hb h).1
theorem lp_star {I0 : KI} {Q : KQ} {net n i v p : Nat} {post : KI → Prop} (h8 : rq Q 274 1 = 276) (h9 : rq Q 276 0 = 277) (hI : I0 274 4 = nI n) (hn : n ≤ 6) (hnet : net < 8) (hv : v < n) (hp : ∀ I', CsI I0 I' net (saT v p n) n i → post I') : ∀ d u I, u + d = n → CsI I0 I net (saT v p u) n i → wp_X8_linkToAll_L2 Q 274 (nI net) (nI v) post (d + 1) I (nI u) := by
  intro d
  induction d with
  | zero =>
    intro u I hu h
    have : u = n := by omega
    subst this
    unfold wp_X8_linkToAll_L2
    rw [h.2.1 4 (by decide), hI]
    exact br_t (nI_le (Nat.le_refl _) (by omega)) (hp I h)
  | succ d ih =>
    intro u I hu h
    have ih := ih (u + 1)
    simp only [saT] at ih
    unfold wp_X8_linkToAll_L2
    rw [h.2.1 4 (by decide), hI, nI_eq (by omega) (by omega), nI_1]
    refine br_f (nI_ge (by omega) (by omega)) ⟨fun c => ?_, fun c => ?_⟩
    · rw [if_pos c] at ih
      exact ih I (by omega) h
    · rw [if_neg c] at ih
      rw [h8]
      refine sp_link hnet hn (by omega) hv c (by rw [h9]; exact h.2.2.2.1) (fun g k1 k2 => ?_)
      rw [h9] at k2 ⊢
      exact ih _ (by omega) (h.link k1 k2)
theorem sp_linkAll {I0 I : KI} {Q : KQ} {net n i v p : Nat} {post : KI → Prop} (h8 : rq Q 274 1 = 276) (h9 : rq Q 276 0 = 277) (hI : I0 274 4 = nI n) (hn : n ≤ 6) (hnet : net < 8) (hv : v < n) (h : CsI I0 I net p n i) (hp : ∀ I', CsI I0 I' net (saT v p n) n i → post I') : wp_X8_linkToAll I Q 274 (nI net) (nI v) post := ⟨n + 1, lp_star h8 h9 hI hn hnet hv hp n 0 I (by omega) h⟩
theorem lp_all {I0 : KI} {Q : KQ} {net n i : Nat} {post : Int32 → KI → Prop} (h8 : rq Q 274 1 = 276) (h9 : rq Q 276 0 = 277) (hI : I0 274 4 = nI n) (hn : n ≤ 6) (hnet : net < 8) (hp : ∀ I', CsI I0 I' net (alT n n) n i → post 1 I') : ∀ d v I, v + d = n → CsI I0 I net (alT n v) n i → wp_X8_isNet_L140 Q 274 (nI net) post (d + 1) I (nI v) := by
  intro d
  induction d with
  | zero =>
    intro v I hv h
    have : v = n := by omega
    subst this
    unfold wp_X8_isNet_L140
    rw [h.2.1 4 (by decide), hI]
    exact br_t (nI_le (Nat.le_refl _) (by omega)) (hp I h)
  | succ d ih =>
    intro v I hv h
    unfold wp_X8_isNet_L140
    rw [h.2.1 4 (by decide), hI, nI_1]
    exact br_f (nI_ge (by omega) (by omega)) (sp_linkAll h8 h9 hI hn hnet (by omega) h (fun I' h' => ih (v + 1) I' (by omega) h'))
theorem chI_eq {a : Nat} {x : Nat} (ha : a ≤ 126) (hx0 : x ≠ 0) (hx : x < 2 ^ 31) : chI a = nI x ↔ a = x := by
  unfold chI
  by_cases h0 : a = 0
  · rw [if_pos h0]
    constructor
    · intro z
      have := nI_pos hx
      rw [← z] at this
      exact absurd (by decide) this
    · intro z; omega
  · rw [if_neg h0, nI_eq (by omega) hx]
theorem opI_none {x : Option Nat} (hx : ∀ v, x = some v → v < 2 ^ 31) : opI x < 0 ↔ x = none := by
  cases x with
  | none => exact ⟨fun _ => rfl, fun _ => by decide⟩
  | some v =>
    have := nI_pos (hx v rfl)
    exact ⟨fun z => absurd z this, fun z => by cases z⟩
theorem lp_links {I0 : KI} {Q : KQ} {net n tm : Nat} {t : Nat → Nat} {post : Int32 → KI → Prop} (h7 : rq Q 274 0 = 275) (h8 : rq Q 274 1 = 276) (h9 : rq Q 276 0 = 277) (hb : TbC I0 t tm n) (h2 : 2 ≤ n) (hn : n ≤ 6) (hnet : net < 8) : ∀ d k i p I, tm < i + d → i ≤ tm → 4 * k ≤ i → CsI I0 I net p n i → (∀ I', CsI I0 I' net (lkT t tm n d i p).2.2 n (lkT t tm n d i p).2.1 → post (bI (lkT t tm n d i p).1) I') → wp_X8_isLinks_L2 Q 274 (nI net) post (fun I_8 => wp_X4_joins I_8 Q 276 (nI net) (I_8 274 4) (fun r10 => ((r10 = 0 ∨ r10 = 1) ∧ post r10 I_8))) d I (nI k) := by
  have htm := hb.1
  intro d
  induction d with
  | zero => intro k i p I h1 h2; omega
  | succ d ih =>
    intro k i p I hd hi hk h hp
    have s1 := skB_le (t := t) hi
    unfold wp_X8_isLinks_L2
    refine br_f (nI_ge (b := 90) (by omega) (by decide)) ?_
    unfold wp_X8_isLink
    refine sp_figure h7 hb hn h hi (fun I1 g1 => ?_)
    simp only [lkT] at hp
    cases hf : fuT t tm n i with
    | none =>
      rw [hf] at hp
      exact ⟨fun z => absurd z (by decide), fun _ => ⟨fun z => absurd rfl z, fun _ => hp I1 g1⟩⟩
    | some a =>
      rw [hf] at hp
      simp only at hp
      obtain ⟨a1, a2, a3⟩ := fuT_some hf
      have s2 := skB_le (t := t) (show nxB t tm i ≤ tm from a3)
      refine br_t (nI_pos' (by omega)) (sp_ahead (i := nxB t tm i) h7 hb g1.up a3 (fun I2 g2 => ?_))
      have l2 := ahT_le (t := t) (i := nxB t tm i) hb
      show ((chI (ahT t tm (nxB t tm i)) = nI 45 → _) ∧ (¬ chI (ahT t tm (nxB t tm i)) = nI 45 → _))
      rw [chI_eq l2.1 (by decide) (by decide)]
      cases hd45 : decide (ahT t tm (nxB t tm i) = 45) with
      | false =>
        rw [hd45] at hp
        exact ⟨fun z => absurd z (of_decide_eq_false hd45), fun _ => ⟨fun z => absurd rfl z, fun _ => hp I2 g2⟩⟩
      | true =>
        rw [hd45] at hp
        simp only at hp
        have e45 := of_decide_eq_true hd45
        have a4 : nxB t tm (nxB t tm i) ≤ tm := ahT_nx (by rw [e45]; decide)
        refine br_t e45 (sp_figure (i := nxB t tm (nxB t tm i)) h7 hb hn g2.up a4 (fun I3 g3 => ?_))
        have s3 := skB_le (t := t) a4
        have g3 : CsI I0 I3 net p n (skB t tm (nxB t tm (nxB t tm i))) := g3
        cases hf2 : fuT t tm n (nxB t tm (nxB t tm i)) with
        | none =>
          rw [hf2] at hp
          exact ⟨fun _ => ⟨fun z => absurd rfl z, fun _ => hp I3 g3⟩, fun z => absurd (by decide) z⟩
        | some b =>
          rw [hf2] at hp
          simp only at hp
          obtain ⟨b1, b2, b3⟩ := fuT_some hf2
          have b3 : nxB t tm (nxB t tm (nxB t tm i)) ≤ tm := b3
          refine br_f (nI_pos (by omega)) ?_
          rw [show (opI (some a) = opI (some b)) = (a = b) from propext (nI_eq (by omega) (by omega))]
          cases hab : (decide (a = b) || p.testBit (pi2 a b)) with
          | true =>
            rw [hab] at hp
            refine ⟨fun _ => ⟨fun z => absurd rfl z, fun _ => hp I3 g3⟩, fun z => ?_⟩
            rw [decide_eq_false z, Bool.false_or] at hab
            rw [h8]
            refine sp_of hnet (by omega) ?_
            rw [h9, g3.2.2.2.1 a (by omega)]
            refine sp_has (nb32 _ _ hn) (by omega) ?_
            have e : (nbT p a n).testBit b = true := by
              rw [nbT_bit]
              exact decide_eq_true ⟨b1, fun y => z y.symm, by rw [pi2_c]; exact hab⟩
            rw [e]
            exact ⟨fun y => absurd y (by decide), fun _ => ⟨fun y => absurd rfl y, fun _ => hp I3 g3⟩⟩
          | false =>
            rw [hab] at hp
            simp only at hp
            rw [Bool.or_eq_false_iff] at hab
            have hne := of_decide_eq_false hab.1
            refine br_f hne ?_
            rw [h8]
            refine sp_of hnet (by omega) ?_
            rw [h9, g3.2.2.2.1 a (by omega)]
            refine sp_has (nb32 _ _ hn) (by omega) ?_
            have e : (nbT p a n).testBit b = false := by
              rw [nbT_bit]
              exact decide_eq_false (fun y => by rw [pi2_c, hab.2] at y; cases y.2.2)
            rw [e]
            refine br_t rfl ?_
            have g4 := g3.up
            refine sp_link hnet hn a1 b1 hne (by rw [h9]; exact g4.2.2.2.1) (fun g k1 k2 => ?_)
            rw [h9] at k2 ⊢
            have g5 := g4.link k1 k2
            refine ⟨fun _ => sp_ahead (i := nxB t tm (nxB t tm (nxB t tm i))) h7 hb g5 b3 (fun I5 g6 => ?_), fun z => absurd z (by decide)⟩
            have l5 := ahT_le (t := t) (i := nxB t tm (nxB t tm (nxB t tm i))) hb
            show ((chI (ahT t tm (nxB t tm (nxB t tm (nxB t tm i)))) = nI 44 → _) ∧ (¬ chI (ahT t tm (nxB t tm (nxB t tm (nxB t tm i)))) = nI 44 → _))
            rw [chI_eq l5.1 (by decide) (by decide)]
            have s4 := skB_le (t := t) b3
            have g6 : CsI I0 I5 net (p ||| 2 ^ pi2 a b) n (skB t tm (nxB t tm (nxB t tm (nxB t tm i)))) := g6
            cases h44 : decide (ahT t tm (nxB t tm (nxB t tm (nxB t tm i))) = 44) with
            | true =>
              rw [h44] at hp
              simp only at hp
              have e44 := of_decide_eq_true h44
              have a5 : nxB t tm (nxB t tm (nxB t tm (nxB t tm i))) ≤ tm := ahT_nx (by rw [e44]; decide)
              have hx1 : nxB t tm i = skB t tm i + 1 := rfl
              have hx2 : nxB t tm (nxB t tm i) = skB t tm (nxB t tm i) + 1 := rfl
              have hx3 : nxB t tm (nxB t tm (nxB t tm i)) = skB t tm (nxB t tm (nxB t tm i)) + 1 := rfl
              have hx4 : nxB t tm (nxB t tm (nxB t tm (nxB t tm i))) = skB t tm (nxB t tm (nxB t tm (nxB t tm i))) + 1 := rfl
              refine br_t e44 ?_
              rw [nI_1]
              exact ih (k + 1) _ _ _ (by omega) a5 (by omega) g6.up hp
            | false =>
              rw [h44] at hp
              simp only at hp
              refine br_f (of_decide_eq_false h44) ?_
              rw [(g6.tb hb).2.2.1]
              exact sp_joins hn (by omega) hnet (by rw [h9]; exact g6.2.2.2.1) ⟨bI_01 _, hp I5 g6⟩
/-! names -/
theorem nm_len : ∀ k, k < 5 → (Int32.ofNat (lenS.getD k 0)) >>> ((0 : Int32) &&& 31) = nI (nmN k) ∧ nmN k < 6 ∧ Int32.ofNat (lenS.getD k 0) = nI (nmN k) ∧ lenS.getD k 0 = nmN k := by decide +kernel
theorem nm_byt : ∀ k, k < 5 → ∀ j, j < nmN k → ((((bytS.getD k []).getD j 0) &&& (255 : Int32)).toUInt32 % 65536).toInt32 = nI ((nmL k).getD j 0) ∧ (nmL k).getD j 0 < 200 := by decide +kernel
theorem sp_slen {k : Nat} {post : Int32 → Prop} (hk : k < 5) (hp : post (nI (nmN k))) : wp_J0_length_8abf5 k post := by
  unfold wp_J0_length_8abf5 wp_J0_coder_7d493
  show post (Int32.ofNat (lenS.getD k 0) >>> ((0 : Int32) &&& 31))
  rw [(nm_len k hk).1]
  exact hp
theorem sp_charAt {k j : Nat} {post : Int32 → Prop} (hk : k < 5) (hj : j < nmN k) (hp : post (nI ((nmL k).getD j 0))) : wp_J0_charAt_5068e k (nI j) post := by
  obtain ⟨n1, n2, n3, n4⟩ := nm_len k hk
  obtain ⟨m1, m2⟩ := nm_byt k hk j hj
  have hch := (pk_charN (q := (nmL k).getD j 0) (by omega)).1
  unfold wp_J0_charAt_5068e wp_J0_isLatin1_aae02 wp_J1_charAt_3b067 wp_J0_checkIndex_df160 wp_J3_checkIndex_8e157
  rw [n3, n4, nI_clamp (n := j) (by omega), m1]
  exact ⟨fun z => absurd z (by decide), fun _ => ⟨fun z => absurd z (nI_pos (by omega)), fun _ => ⟨fun _ => ⟨vp_in_nI hj (by omega), hch, hch, hp⟩, fun z => absurd (nI_lt hj (by omega)) z⟩⟩⟩
theorem lp_isName {I : KI} {Q : KQ} {s k tm n : Nat} {t : Nat → Nat} {post : Int32 → Prop} (h7 : rq Q 274 0 = 275) (hb : TbC I t tm n) (hk : k < 5) (hs : s + nmN k ≤ tm) (hp : post (bI (alB (fun j => decide (t (s + j) = (nmL k).getD j 0)) (nmN k)))) : ∀ d j, j + d = nmN k → alB (fun j => decide (t (s + j) = (nmL k).getD j 0)) j = true → wp_X8_isName_L17 I Q 274 (nI s) k post (d + 1) (nI j) := by
  obtain ⟨n1, n2, n3, n4⟩ := nm_len k hk
  obtain ⟨b1, b2, b3, b4⟩ := hb
  intro d
  induction d with
  | zero =>
    intro j hj ha
    have e : j = nmN k := by omega
    subst e
    unfold wp_X8_isName_L17
    rw [ha] at hp
    exact sp_slen hk (br_t (nI_le (Nat.le_refl _) (by omega)) hp)
  | succ d ih =>
    intro j hj ha
    obtain ⟨m1, m2⟩ := nm_byt k hk j (by omega)
    obtain ⟨c1, c2, c3⟩ := b4 (s + j) (by omega)
    unfold wp_X8_isName_L17
    refine sp_slen hk (br_f (nI_ge (by omega) (by omega)) ?_)
    rw [nI_add, nI_1, nI_clamp (n := s + j) (by omega), h7, c1]
    refine ⟨vp_in_nI (by omega) (by decide), sp_charAt hk (by omega) ?_⟩
    rw [nI_eq (by omega) (by omega)]
    refine ⟨fun z => ih (j + 1) (by omega) ?_, fun z => ?_⟩
    · simp only [alB]
      rw [ha, decide_eq_true z]
      rfl
    · rw [alB_f (p := fun j => decide (t (s + j) = (nmL k).getD j 0)) (show j < nmN k by omega) (decide_eq_false z)] at hp
      exact hp
theorem sp_isName {I : KI} {Q : KQ} {s e k tm n : Nat} {t : Nat → Nat} {post : Int32 → Prop} (h7 : rq Q 274 0 = 275) (hb : TbC I t tm n) (hk : k < 5) (h3 : I 274 3 = nI e) (hse : s ≤ e) (he : e ≤ tm) (hp : post (bI (nmB t s e k))) : wp_X8_isName I Q 274 (nI s) k post := by
  obtain ⟨n1, n2, n3, n4⟩ := nm_len k hk
  have htm := hb.1
  unfold wp_X8_isName
  refine sp_slen hk ?_
  rw [h3, pk_sub hse, nI_eq (by omega) (by omega)]
  unfold nmB at hp
  refine ⟨fun c => ⟨nmN k + 1, lp_isName h7 hb hk (by omega) ?_ (nmN k) 0 (by omega) rfl⟩, fun c => ?_⟩
  · rw [decide_eq_true c, Bool.true_and] at hp
    exact hp
  · rw [decide_eq_false c, Bool.false_and] at hp
    exact hp
theorem lp_cword {I0 : KI} {Q : KQ} {net p n tm : Nat} {t : Nat → Nat} {kk : KI → Prop} (h7 : rq Q 274 0 = 275) (hb : TbC I0 t tm n) : ∀ d i I, i + d = tm → CsI I0 I net p n i → (∀ I', CsI I0 I' net p n (weT t d i) → kk I') → wp_X8_isNet_L10 Q 274 kk (d + 1) I := by
  intro d
  induction d with
  | zero =>
    intro i I hi h hp
    obtain ⟨b1, b2, b3, b4⟩ := h.tb hb
    unfold wp_X8_isNet_L10
    rw [b2, h.2.2.1]
    exact br_t (nI_le (by omega) (by omega)) (hp I h)
  | succ d ih =>
    intro i I hi h hp
    obtain ⟨b1, b2, b3, b4⟩ := h.tb hb
    obtain ⟨c1, c2, c3⟩ := b4 i (by omega)
    have hup := h.up
    unfold wp_X8_isNet_L10
    rw [b2, h7]
    rw [h.2.2.1] at hup ⊢
    rw [nI_clamp (n := i) (by omega), c1, show (nI (t i) < (97 : Int32)) = (t i < 97) from propext (nI_ltI (b := 97) (by omega) (by decide)), show ((122 : Int32) < nI (t i)) = (122 < t i) from propext (nI_ltI (a := 122) (by decide) (by omega))]
    have hin : vp_in (nI i) 90 := vp_in_nI (by omega) (by decide)
    refine br_f (nI_ge (by omega) (by omega)) ⟨hin, fun c => ?_, fun c => ⟨hin, fun e => ?_, fun e => ?_⟩⟩
    · rw [weT_f (by omega)] at hp
      exact hp I h
    · rw [weT_f (by omega)] at hp
      exact hp I h
    · rw [weT_t (by omega)] at hp
      exact ih (i + 1) _ (by omega) hup hp
