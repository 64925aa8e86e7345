/-! PURE, 38: links, words, a net, as the reference reads them -/
theorem lp_mlinks {I0 : KI} {Q : KQ} {net n tm : Nat} {t : Nat → Nat} {post : Int32 → KI → Prop} (hM : MdQ Q) (hb : TbM I0 t tm n net) (h2 : 2 ≤ n) (hn : n ≤ 6) (hnet : net < 8) : ∀ d i p I, tm < i + d → i ≤ tm → p < 2 ^ 15 → MsI I0 I net i → ((lkT t tm n d i p).1 = true → ∀ I', MsI I0 I' net (lkT t tm n d i p).2.1 → I' 300 net = nI (lkT t tm n d i p).2.2 → post 1 I') → ((lkT t tm n d i p).1 = false → ∀ I', MsI I0 I' net (lkT t tm n d i p).2.1 → post 0 I') → wp_X11_readsLinks_L4 Q 287 post (fun I_19 x1_19 => (vp_in (I_19 287 22) 8 ∧ wp_X11_areJoined (sti I_19 300 (I_19 287 22).toNatClampNeg x1_19) Q 287 x1_19 (fun r21 => ((r21 = 0 ∨ r21 = 1) ∧ post r21 (sti I_19 300 (I_19 287 22).toNatClampNeg x1_19))))) (d + 1) I (nI p) 1 := by
  have htm := hb.1
  intro d
  induction d with
  | zero => intro i p I h1 h2; omega
  | succ d ih =>
    intro i p I hd hi hp15 h hp1 hp0
    have s1 := skB_le (t := t) hi
    unfold wp_X11_readsLinks_L4
    refine ⟨fun z => absurd z (by decide), fun _ => ms_nodeHere hM hb hn h hi (fun I1 g1 => ?_)⟩
    simp only [lkT] at hp1 hp0
    cases hf : fuT t tm n i with
    | none =>
      rw [hf] at hp0
      exact ⟨fun z => absurd rfl z, fun _ => hp0 rfl I1 g1⟩
    | some a =>
      rw [hf] at hp1 hp0
      simp only at hp1 hp0
      obtain ⟨a1, a2, a3⟩ := fuT_some hf
      have a3 : nxB t tm i ≤ tm := a3
      have s2 := skB_le (t := t) a3
      refine ⟨fun _ => ms_here (i := nxB t tm i) hM hb g1.up a3 (fun I2 g2 => ?_), fun z => absurd z (op4_some (by omega))⟩
      have l2 := ahM_le (t := t) (i := nxB t tm i) hb
      show ((chI (ahT t tm (nxB t tm i)) = nI 45 → _) ∧ (¬ chI (ahT t tm (nxB t tm i)) = nI 45 → _))
      rw [chI_eq l2.1 (by decide) (by decide)]
      cases hd45 : decide (ahT t tm (nxB t tm i) = 45) with
      | false =>
        rw [hd45] at hp0
        exact br_f (of_decide_eq_false hd45) (hp0 rfl I2 g2)
      | true =>
        rw [hd45] at hp1 hp0
        simp only at hp1 hp0
        have e45 := of_decide_eq_true hd45
        have a4 : nxB t tm (nxB t tm i) ≤ tm := ahT_nx (by rw [e45]; decide)
        have s3 := skB_le (t := t) a4
        refine br_t e45 (ms_nodeHere (i := nxB t tm (nxB t tm i)) hM hb hn g2.up a4 (fun I3 g3 => ?_))
        cases hf2 : fuT t tm n (nxB t tm (nxB t tm i)) with
        | none =>
          rw [hf2] at hp0
          exact ⟨fun _ => hp0 rfl I3 g3, fun z => absurd rfl z⟩
        | some b =>
          rw [hf2] at hp1 hp0
          simp only at hp1 hp0
          obtain ⟨b1, b2, b3⟩ := fuT_some hf2
          have b3 : nxB t tm (nxB t tm (nxB t tm i)) ≤ tm := b3
          have s4 := skB_le (t := t) b3
          refine ⟨fun z => absurd z (op4_some (by omega)), fun _ => ?_⟩
          have eab : (op4 (some b) = op4 (some a)) = (b = a) := propext (nI_eq (by omega) (by omega))
          rw [eab]
          cases hab : (decide (a = b) || p.testBit (pi2 a b)) with
          | true =>
            rw [hab] at hp0
            refine ⟨fun _ => hp0 rfl I3 g3, fun z => ?_⟩
            have hne : a ≠ b := fun y => z y.symm
            rw [decide_eq_false hne, Bool.false_or] at hab
            have hpi := pi2_lt6 (show a < 6 by omega) (show b < 6 by omega) hne
            refine ms_linkOf (u := a) (v := b) (by omega) (by omega) hne (ms_has (by omega) (by omega) ?_)
            rw [hab]
            exact ⟨fun y => absurd y (by decide), fun _ => hp0 rfl I3 g3⟩
          | false =>
            rw [hab] at hp1 hp0
            simp only at hp1 hp0
            rw [Bool.or_eq_false_iff] at hab
            have hne := of_decide_eq_false hab.1
            have hpi := pi2_lt6 (show a < 6 by omega) (show b < 6 by omega) hne
            refine br_f (fun y => hne y.symm) (ms_linkOf (u := a) (v := b) (by omega) (by omega) hne (ms_has (by omega) (by omega) ?_))
            rw [hab.2]
            refine br_t rfl (ms_linkOf (u := a) (v := b) (by omega) (by omega) hne (ms_here (i := nxB t tm (nxB t tm (nxB t tm i))) hM hb g3.up b3 (fun I5 g6 => ?_)))
            have hp15' : p ||| 2 ^ pi2 a b < 2 ^ 15 := Nat.or_lt_two_pow hp15 (Nat.pow_lt_pow_right (by omega) hpi)
            have l5 := ahM_le (t := t) (i := nxB t tm (nxB t tm (nxB t tm i))) hb
            rw [ni_shl1 _ (by omega), ni_or]
            show ((¬ chI (ahT t tm (nxB t tm (nxB t tm (nxB t tm i)))) = nI 44 → _) ∧ (chI (ahT t tm (nxB t tm (nxB t tm (nxB t tm i)))) = nI 44 → _))
            rw [chI_eq l5.1 (by decide) (by decide)]
            cases h44 : decide (ahT t tm (nxB t tm (nxB t tm (nxB t tm i))) = 44) with
            | true =>
              rw [h44] at hp1 hp0
              simp only at hp1 hp0
              have e44 := of_decide_eq_true h44
              have a5 : nxB t tm (nxB t tm (nxB t tm (nxB t tm i))) ≤ tm := ahT_nx (by rw [e44]; decide)
              have hx1 : nxB t tm i = skB t tm i + 1 := rfl
              have hx2 : nxB t tm (nxB t tm i) = skB t tm (nxB t tm i) + 1 := rfl
              have hx3 : nxB t tm (nxB t tm (nxB t tm i)) = skB t tm (nxB t tm (nxB t tm i)) + 1 := rfl
              have hx4 : nxB t tm (nxB t tm (nxB t tm (nxB t tm i))) = skB t tm (nxB t tm (nxB t tm (nxB t tm i))) + 1 := rfl
              exact ⟨fun z => absurd e44 z, fun _ => ih _ _ _ (by omega) a5 hp15' g6.up hp1 hp0⟩
            | false =>
              rw [h44] at hp1 hp0
              simp only at hp1 hp0
              have hd1 : 1 ≤ d := by
                have hx1 : nxB t tm i = skB t tm i + 1 := rfl
                omega
              obtain ⟨d', rfl⟩ : ∃ d', d = d' + 1 := ⟨d - 1, by omega⟩
              refine ⟨fun _ => ?_, fun z => absurd z (of_decide_eq_false h44)⟩
              have g7 : MsI I0 (sti I5 287 21 (I5 287 21 + 0)) net (skB t tm (nxB t tm (nxB t tm (nxB t tm i)))) := by
                rw [g6.2.2.1, show nI (skB t tm (nxB t tm (nxB t tm (nxB t tm i)))) + (0 : Int32) = nI (skB t tm (nxB t tm (nxB t tm (nxB t tm i)))) from nI_add _ 0]
                exact g6.to _
              have g8 := g7.put (nI (p ||| 2 ^ pi2 a b))
              obtain ⟨q1, q2, q3, q4, q5⟩ := g7.tb hb
              unfold wp_X11_readsLinks_L4
              refine ⟨fun _ => ?_, fun z => absurd rfl z⟩
              show (_ ∧ _)
              rw [q3, nI_clamp (n := net) (by omega)]
              refine ⟨vp_in_nI hnet (by decide), ms_areJoined hM (g8.tb hb).2.2.2.1 (by omega) hn hp15' ⟨bI_01 _, ?_⟩⟩
              cases hj : joinB (p ||| 2 ^ pi2 a b) n with
              | true => exact hp1 hj _ g8 (by rw [sti_at, pk_us])
              | false => exact hp0 hj _ g8
/-! words -/
def vlT (t : Nat → Nat) (s : Nat) : Nat → Nat
  | 0 => 0
  | j + 1 => 32 * vlT t s j + (t (s + j) - 96)
theorem vlT_lt {t : Nat → Nat} {s : Nat} : ∀ L, (∀ j, j < L → t (s + j) ≤ 122) → vlT t s L < 32 ^ L := by
  intro L
  induction L with
  | zero => intro _; exact Nat.one_pos
  | succ L ih =>
    intro h
    have h1 := ih (fun j hj => h j (by omega))
    have h2 := h L (by omega)
    simp only [vlT]
    rw [Nat.pow_succ]
    omega
def wvI (t : Nat → Nat) (s L : Nat) : Int64 := if L ≤ 6 then lN (vlT t s L) else -1
theorem lp_mword {I0 : KI} {Q : KQ} {net n tm s : Nat} {t : Nat → Nat} {post : Int64 → KI → Prop} (hM : MdQ Q) (hb : TbM I0 t tm n net) : ∀ d i I, i + d = tm → s ≤ i → MsI I0 I net i → (∀ I', MsI I0 I' net (weT t d i) → post (wvI t s (weT t d i - s)) I') → wp_X11_word_L7 Q 287 (nI s) post (d + 1) I (wvI t s (i - s)) := by
  intro d
  induction d with
  | zero =>
    intro i I hi hs h hp
    obtain ⟨b1, b2, b3, b4, b5⟩ := h.tb hb
    unfold wp_X11_word_L7
    rw [b2, h.2.2.1]
    exact br_t (nI_le (by omega) (by omega)) (hp I h)
  | succ d ih =>
    intro i I hi hs h hp
    obtain ⟨b1, b2, b3, b4, b5⟩ := h.tb hb
    obtain ⟨c1, c2, c3⟩ := b5 i (by omega)
    have hup := h.up
    have hin : vp_in (nI i) 90 := vp_in_nI (by omega) (by decide)
    unfold wp_X11_word_L7
    rw [b2, hM.tape]
    rw [h.2.2.1] at hup ⊢
    rw [nI_clamp (n := i) (by omega), c1, pk_sub hs]
    refine br_f (nI_ge (by omega) (by omega)) ⟨hin, ?_⟩
    by_cases hl : 97 ≤ t i ∧ t i ≤ 122
    · rw [weT_t hl] at hp
      refine ms_in1 (lo := 97) (hi := 122) hl.1 hl.2 (by decide) ⟨fun z => absurd z (by decide), fun _ => ?_⟩
      have ih := ih (i + 1) _ (by omega) (by omega) hup hp
      refine ⟨fun c => ?_, fun c => ⟨hin, ?_⟩⟩
      · have hc : 6 ≤ i - s := (nI_leI (a := 6) (by decide) (by omega)).mp c
        have e : wvI t s (i + 1 - s) = -1 := by unfold wvI; rw [if_neg (by omega)]
        rw [e] at ih
        exact ih
      · have hc : ¬ 6 ≤ i - s := fun z => c (nI_le (a := 6) z (by omega))
        have e0 : wvI t s (i - s) = lN (vlT t s (i - s)) := by unfold wvI; rw [if_pos (by omega)]
        have e1 : wvI t s (i + 1 - s) = lN (32 * vlT t s (i - s) + (t i - 96)) := by
          unfold wvI
          rw [if_pos (by omega), show i + 1 - s = i - s + 1 by omega]
          simp only [vlT]
          rw [show s + (i - s) = i by omega]
        rw [e0, nI_l (by omega), show (32 : Int64) = lN 32 from rfl, show (97 : Int64) = lN 97 from rfl, show (1 : Int64) = lN 1 from rfl, lN_mul, lN_add, lN_sub (by omega), lN_add, show 32 * vlT t s (i - s) + t i - 97 + 1 = 32 * vlT t s (i - s) + (t i - 96) by omega, ← e1]
        exact ih
    · rw [weT_f hl] at hp
      refine ms_in0 (lo := 97) (hi := 122) (fun j h1 h2 e => hl ?_) (by decide) (by decide) ⟨fun _ => hp I h, fun z => absurd rfl z⟩
      have := (nI_eq (by omega) (by omega)).mp e
      omega
def nmV (k : Nat) : Nat := [525960, 599495, 643122, 12892531, 1420].getD k 0
theorem vl_0 {t : Nat → Nat} {s L : Nat} (hL : L ≤ 6) (hd : ∀ j, j < L → 97 ≤ t (s + j) ∧ t (s + j) ≤ 122) : vlT t s L = 525960 ↔ (L = 4 ∧ t (s + 0) = 112 ∧ t (s + 1) = 97 ∧ t (s + 2) = 116 ∧ t (s + 3) = 104) := by
  rcases (show L = 0 ∨ L = 1 ∨ L = 2 ∨ L = 3 ∨ L = 4 ∨ L = 5 ∨ L = 6 by omega) with rfl | rfl | rfl | rfl | rfl | rfl | rfl
  · simp only [vlT]; omega
  · have h0 := hd 0 (by omega); simp only [vlT]; omega
  · have h0 := hd 0 (by omega); have h1 := hd 1 (by omega); simp only [vlT]; omega
  · have h0 := hd 0 (by omega); have h1 := hd 1 (by omega); have h2 := hd 2 (by omega); simp only [vlT]; omega
  · have h0 := hd 0 (by omega); have h1 := hd 1 (by omega); have h2 := hd 2 (by omega); have h3 := hd 3 (by omega); simp only [vlT]; constructor
    · intro q; refine ⟨trivial, ?_, ?_, ?_, ?_⟩ <;> omega
    · rintro ⟨-, q0, q1, q2, q3⟩; omega
  · have h0 := hd 0 (by omega); have h1 := hd 1 (by omega); have h2 := hd 2 (by omega); have h3 := hd 3 (by omega); have h4 := hd 4 (by omega); simp only [vlT]; omega
  · have h0 := hd 0 (by omega); have h1 := hd 1 (by omega); have h2 := hd 2 (by omega); have h3 := hd 3 (by omega); have h4 := hd 4 (by omega); have h5 := hd 5 (by omega); simp only [vlT]; omega
theorem vl_1 {t : Nat → Nat} {s L : Nat} (hL : L ≤ 6) (hd : ∀ j, j < L → 97 ≤ t (s + j) ∧ t (s + j) ≤ 122) : vlT t s L = 599495 ↔ (L = 4 ∧ t (s + 0) = 114 ∧ t (s + 1) = 105 ∧ t (s + 2) = 110 ∧ t (s + 3) = 103) := by
  rcases (show L = 0 ∨ L = 1 ∨ L = 2 ∨ L = 3 ∨ L = 4 ∨ L = 5 ∨ L = 6 by omega) with rfl | rfl | rfl | rfl | rfl | rfl | rfl
  · simp only [vlT]; omega
  · have h0 := hd 0 (by omega); simp only [vlT]; omega
  · have h0 := hd 0 (by omega); have h1 := hd 1 (by omega); simp only [vlT]; omega
  · have h0 := hd 0 (by omega); have h1 := hd 1 (by omega); have h2 := hd 2 (by omega); simp only [vlT]; omega
  · have h0 := hd 0 (by omega); have h1 := hd 1 (by omega); have h2 := hd 2 (by omega); have h3 := hd 3 (by omega); simp only [vlT]; constructor
    · intro q; refine ⟨trivial, ?_, ?_, ?_, ?_⟩ <;> omega
    · rintro ⟨-, q0, q1, q2, q3⟩; omega
  · have h0 := hd 0 (by omega); have h1 := hd 1 (by omega); have h2 := hd 2 (by omega); have h3 := hd 3 (by omega); have h4 := hd 4 (by omega); simp only [vlT]; omega
  · have h0 := hd 0 (by omega); have h1 := hd 1 (by omega); have h2 := hd 2 (by omega); have h3 := hd 3 (by omega); have h4 := hd 4 (by omega); have h5 := hd 5 (by omega); simp only [vlT]; omega
theorem vl_2 {t : Nat → Nat} {s L : Nat} (hL : L ≤ 6) (hd : ∀ j, j < L → 97 ≤ t (s + j) ∧ t (s + j) ≤ 122) : vlT t s L = 643122 ↔ (L = 4 ∧ t (s + 0) = 115 ∧ t (s + 1) = 116 ∧ t (s + 2) = 97 ∧ t (s + 3) = 114) := by
  rcases (show L = 0 ∨ L = 1 ∨ L = 2 ∨ L = 3 ∨ L = 4 ∨ L = 5 ∨ L = 6 by omega) with rfl | rfl | rfl | rfl | rfl | rfl | rfl
  · simp only [vlT]; omega
  · have h0 := hd 0 (by omega); simp only [vlT]; omega
  · have h0 := hd 0 (by omega); have h1 := hd 1 (by omega); simp only [vlT]; omega
  · have h0 := hd 0 (by omega); have h1 := hd 1 (by omega); have h2 := hd 2 (by omega); simp only [vlT]; omega
  · have h0 := hd 0 (by omega); have h1 := hd 1 (by omega); have h2 := hd 2 (by omega); have h3 := hd 3 (by omega); simp only [vlT]; constructor
    · intro q; refine ⟨trivial, ?_, ?_, ?_, ?_⟩ <;> omega
    · rintro ⟨-, q0, q1, q2, q3⟩; omega
  · have h0 := hd 0 (by omega); have h1 := hd 1 (by omega); have h2 := hd 2 (by omega); have h3 := hd 3 (by omega); have h4 := hd 4 (by omega); simp only [vlT]; omega
  · have h0 := hd 0 (by omega); have h1 := hd 1 (by omega); have h2 := hd 2 (by omega); have h3 := hd 3 (by omega); have h4 := hd 4 (by omega); have h5 := hd 5 (by omega); simp only [vlT]; omega
theorem vl_3 {t : Nat → Nat} {s L : Nat} (hL : L ≤ 6) (hd : ∀ j, j < L → 97 ≤ t (s + j) ∧ t (s + j) ≤ 122) : vlT t s L = 12892531 ↔ (L = 5 ∧ t (s + 0) = 108 ∧ t (s + 1) = 105 ∧ t (s + 2) = 110 ∧ t (s + 3) = 107 ∧ t (s + 4) = 115) := by
  rcases (show L = 0 ∨ L = 1 ∨ L = 2 ∨ L = 3 ∨ L = 4 ∨ L = 5 ∨ L = 6 by omega) with rfl | rfl | rfl | rfl | rfl | rfl | rfl
  · simp only [vlT]; omega
  · have h0 := hd 0 (by omega); simp only [vlT]; omega
  · have h0 := hd 0 (by omega); have h1 := hd 1 (by omega); simp only [vlT]; omega
  · have h0 := hd 0 (by omega); have h1 := hd 1 (by omega); have h2 := hd 2 (by omega); simp only [vlT]; omega
  · have h0 := hd 0 (by omega); have h1 := hd 1 (by omega); have h2 := hd 2 (by omega); have h3 := hd 3 (by omega); simp only [vlT]; omega
  · have h0 := hd 0 (by omega); have h1 := hd 1 (by omega); have h2 := hd 2 (by omega); have h3 := hd 3 (by omega); have h4 := hd 4 (by omega); simp only [vlT]; constructor
    · intro q; refine ⟨trivial, ?_, ?_, ?_, ?_, ?_⟩ <;> omega
    · rintro ⟨-, q0, q1, q2, q3, q4⟩; omega
  · have h0 := hd 0 (by omega); have h1 := hd 1 (by omega); have h2 := hd 2 (by omega); have h3 := hd 3 (by omega); have h4 := hd 4 (by omega); have h5 := hd 5 (by omega); simp only [vlT]; omega
theorem vl_4 {t : Nat → Nat} {s L : Nat} (hL : L ≤ 6) (hd : ∀ j, j < L → 97 ≤ t (s + j) ∧ t (s + j) ≤ 122) : vlT t s L = 1420 ↔ (L = 3 ∧ t (s + 0) = 97 ∧ t (s + 1) = 108 ∧ t (s + 2) = 108) := by
  rcases (show L = 0 ∨ L = 1 ∨ L = 2 ∨ L = 3 ∨ L = 4 ∨ L = 5 ∨ L = 6 by omega) with rfl | rfl | rfl | rfl | rfl | rfl | rfl
  · simp only [vlT]; omega
  · have h0 := hd 0 (by omega); simp only [vlT]; omega
  · have h0 := hd 0 (by omega); have h1 := hd 1 (by omega); simp only [vlT]; omega
  · have h0 := hd 0 (by omega); have h1 := hd 1 (by omega); have h2 := hd 2 (by omega); simp only [vlT]; constructor
    · intro q; refine ⟨trivial, ?_, ?_, ?_⟩ <;> omega
    · rintro ⟨-, q0, q1, q2⟩; omega
  · have h0 := hd 0 (by omega); have h1 := hd 1 (by omega); have h2 := hd 2 (by omega); have h3 := hd 3 (by omega); simp only [vlT]; omega
  · have h0 := hd 0 (by omega); have h1 := hd 1 (by omega); have h2 := hd 2 (by omega); have h3 := hd 3 (by omega); have h4 := hd 4 (by omega); simp only [vlT]; omega
  · have h0 := hd 0 (by omega); have h1 := hd 1 (by omega); have h2 := hd 2 (by omega); have h3 := hd 3 (by omega); have h4 := hd 4 (by omega); have h5 := hd 5 (by omega); simp only [vlT]; omega
theorem nmB_iff {t : Nat → Nat} {s e k : Nat} : nmB t s e k = true ↔ e - s = nmN k ∧ ∀ j, j < nmN k → t (s + j) = (nmL k).getD j 0 := by
  unfold nmB
  rw [Bool.and_eq_true, decide_eq_true_iff, alB_t]
  exact ⟨fun h => ⟨h.1, fun j hj => of_decide_eq_true (h.2 j hj)⟩, fun h => ⟨h.1, fun j hj => decide_eq_true (h.2 j hj)⟩⟩
theorem all4 {P : Nat → Prop} : (∀ j, j < 4 → P j) ↔ P 0 ∧ P 1 ∧ P 2 ∧ P 3 := ⟨fun h => ⟨h 0 (by decide), h 1 (by decide), h 2 (by decide), h 3 (by decide)⟩, fun ⟨h0, h1, h2, h3⟩ j hj => by rcases (show j = 0 ∨ j = 1 ∨ j = 2 ∨ j = 3 by omega) with rfl | rfl | rfl | rfl <;> assumption⟩
theorem all5 {P : Nat → Prop} : (∀ j, j < 5 → P j) ↔ P 0 ∧ P 1 ∧ P 2 ∧ P 3 ∧ P 4 := ⟨fun h => ⟨h 0 (by decide), h 1 (by decide), h 2 (by decide), h 3 (by decide), h 4 (by decide)⟩, fun ⟨h0, h1, h2, h3, h4⟩ j hj => by rcases (show j = 0 ∨ j = 1 ∨ j = 2 ∨ j = 3 ∨ j = 4 by omega) with rfl | rfl | rfl | rfl | rfl <;> assumption⟩
theorem all3 {P : Nat → Prop} : (∀ j, j < 3 → P j) ↔ P 0 ∧ P 1 ∧ P 2 := ⟨fun h => ⟨h 0 (by decide), h 1 (by decide), h 2 (by decide)⟩, fun ⟨h0, h1, h2⟩ j hj => by rcases (show j = 0 ∨ j = 1 ∨ j = 2 by omega) with rfl | rfl | rfl <;> assumption⟩
theorem nm_val {t : Nat → Nat} {s e k : Nat} (hk : k < 5) (hse : s ≤ e) (hd : ∀ j, s ≤ j → j < e → 97 ≤ t j ∧ t j ≤ 122) : wvI t s (e - s) = lN (nmV k) ↔ nmB t s e k = true := by
  have hd' : ∀ j, j < e - s → 97 ≤ t (s + j) ∧ t (s + j) ≤ 122 := fun j hj => hd (s + j) (by omega) (by omega)
  rw [nmB_iff]
  by_cases hL : e - s ≤ 6
  · have hlt := vlT_lt (t := t) (s := s) (e - s) (fun j hj => (hd' j hj).2)
    have hp : 32 ^ (e - s) ≤ 32 ^ 6 := Nat.pow_le_pow_right (by omega) hL
    have ew : wvI t s (e - s) = lN (vlT t s (e - s)) := by unfold wvI; rw [if_pos hL]
    have hv : nmV k < 2 ^ 31 := (by decide : ∀ k, k < 5 → nmV k < 2 ^ 31) k hk
    rw [ew, lN_eq (by omega) hv]
    rcases (show k = 0 ∨ k = 1 ∨ k = 2 ∨ k = 3 ∨ k = 4 by omega) with rfl | rfl | rfl | rfl | rfl
    · rw [show nmV 0 = 525960 from rfl, vl_0 hL hd']
      exact and_congr Iff.rfl (all4 (P := fun j => t (s + j) = (nmL 0).getD j 0)).symm
    · rw [show nmV 1 = 599495 from rfl, vl_1 hL hd']
      exact and_congr Iff.rfl (all4 (P := fun j => t (s + j) = (nmL 1).getD j 0)).symm
    · rw [show nmV 2 = 643122 from rfl, vl_2 hL hd']
      exact and_congr Iff.rfl (all4 (P := fun j => t (s + j) = (nmL 2).getD j 0)).symm
    · rw [show nmV 3 = 12892531 from rfl, vl_3 hL hd']
      exact and_congr Iff.rfl (all5 (P := fun j => t (s + j) = (nmL 3).getD j 0)).symm
    · rw [show nmV 4 = 1420 from rfl, vl_4 hL hd']
      exact and_congr Iff.rfl (all3 (P := fun j => t (s + j) = (nmL 4).getD j 0)).symm
  · have ew : wvI t s (e - s) = -1 := by unfold wvI; rw [if_neg hL]
    rw [ew]
    constructor
    · intro z
      exact absurd z ((by decide : ∀ k, k < 5 → ¬ (-1 : Int64) = lN (nmV k)) k hk)
    · rintro ⟨z, -⟩
      have := (nm_len k hk).2.1
      omega
theorem ms_name0 {post : Int64 → Prop} (hp : post (lN (nmV 0))) : wp_X11_name 16 1 20 8 post := hp
theorem ms_name1 {post : Int64 → Prop} (hp : post (lN (nmV 1))) : wp_X11_name 18 9 14 7 post := hp
theorem ms_name2 {post : Int64 → Prop} (hp : post (lN (nmV 2))) : wp_X11_name 19 20 1 18 post := hp
theorem ms_name3 {post : Int64 → Prop} (hp : post (lN 402891)) : wp_X11_name 12 9 14 11 post := hp
theorem ms_name4 {post : Int64 → Prop} (hp : post (lN (nmV 4))) : wp_X11_name 0 1 12 12 post := hp
theorem ms_net {I0 I : KI} {Q : KQ} {net n tm i : Nat} {t : Nat → Nat} {post : Int32 → KI → Prop} (hM : MdQ Q) (hb : TbM I0 t tm n net) (h2 : 2 ≤ n) (hn : n ≤ 6) (hnet : net < 8) (h : MsI I0 I net i) (hi : i ≤ tm) (hp1 : (ntT t tm n i).1 = true → ∀ I' j, MsI I0 I' net j → j ≤ tm → skB t tm j = skB t tm (ntT t tm n i).2.1 → I' 300 net = nI (ntT t tm n i).2.2 → post 1 I') (hp0 : (ntT t tm n i).1 = false → ∀ I', MsI I0 I' net (ntT t tm n i).2.1 → post 0 I') : wp_X11_readsNet I Q 287 post := by
  have hs := skB_le (t := t) hi
  have hw := weB_le (t := t) hs.2
  have tb0 := h.tb hb
  have hE : n * (n - 1) / 2 ≤ 15 := by
    rcases (show n = 2 ∨ n = 3 ∨ n = 4 ∨ n = 5 ∨ n = 6 by omega) with h | h | h | h | h <;> rw [h] <;> decide
  unfold wp_X11_readsNet
  rw [tb0.2.2.1]
  refine ⟨fun _ => ms_here hM hb h hi (fun I1 g1 => ?_), fun z => ?_⟩
  · have e1 : I1 287 21 = nI (skB t tm i) := g1.2.2.1
    unfold wp_X11_word
    rw [e1]
    have ez : wvI t (skB t tm i) (skB t tm i - skB t tm i) = (0 : Int64) := by rw [Nat.sub_self]; rfl
    have hword : ∀ {po : Int64 → KI → Prop}, (∀ I', MsI I0 I' net (weB t tm (skB t tm i)) → po (wvI t (skB t tm i) (weB t tm (skB t tm i) - skB t tm i)) I') → wp_X11_word_L7 Q 287 (nI (skB t tm i)) po (tm - skB t tm i + 1) I1 0 := fun {po} hpo => by
      have := lp_mword (s := skB t tm i) (post := po) hM hb (tm - skB t tm i) (skB t tm i) I1 (by omega) (Nat.le_refl _) g1 hpo
      rw [ez] at this
      exact this
    refine ⟨tm - skB t tm i + 1, hword (fun I2 g2 => ?_)⟩
    have g2 : MsI I0 I2 net (weB t tm (skB t tm i)) := g2
    have tb2 := g2.tb hb
    have hv : ∀ {k : Nat}, k < 5 → (wvI t (skB t tm i) (weB t tm (skB t tm i) - skB t tm i) = lN (nmV k) ↔ nmB t (skB t tm i) (weB t tm (skB t tm i)) k = true) := fun hk => nm_val hk hw.1 hw.2.2
    have hpos := rwT_pos (t := t) (tm := tm) (n := n) n (weB t tm (skB t tm i)) 0 0 0 0 hw.2.1
    have hpos2 := skB_le (t := t) hpos.1
    show wp_X11_name 16 1 20 8 (fun r4 => (((lg_cmp (wvI t (skB t tm i) (weB t tm (skB t tm i) - skB t tm i)) r4) = 0 → _) ∧ (¬ (lg_cmp (wvI t (skB t tm i) (weB t tm (skB t tm i) - skB t tm i)) r4) = 0 → _)))
    generalize hwv : wvI t (skB t tm i) (weB t tm (skB t tm i) - skB t tm i) = w at hv ⊢
    unfold ntT at hp1 hp0
    refine ms_name0 ?_
    rw [lg_cmp_eq, hv (k := 0) (by decide)]
    refine ⟨fun n0 => ms_name1 ?_, fun n0 => ms_name1 ?_⟩
    · rw [if_pos n0] at hp1 hp0
      have hno : ¬ (lg_cmp w (lN (nmV 1))) = 0 := by
        rw [lg_cmp_eq, (hv (k := 0) (by decide)).mpr n0]
        decide
      refine ⟨fun _ => ?_, fun z => absurd z hno⟩
      exact ms_row2 (x := 0) hM hb h2 hn hnet g2 hw.2.1 (fun hok I' k1 k2 => ⟨Or.inr rfl, hp1 hok I' _ k1 hpos2.2 (skB_id hpos.1) k2⟩) (fun hno I' k1 => ⟨Or.inl rfl, hp0 hno I' k1⟩)
    · rw [if_neg n0] at hp1 hp0
      rw [lg_cmp_eq, hv (k := 1) (by decide)]
      refine ⟨fun n1 => ms_name2 ?_, fun n1 => ms_name1 ?_⟩
      · rw [if_neg n1] at hp1 hp0
        rw [lg_cmp_eq, hv (k := 2) (by decide)]
        refine ⟨fun n2 => ms_name3 ?_, fun n2 => ?_⟩
        · rw [if_neg n2] at hp1 hp0
          rw [lg_cmp_eq, show (32 : Int64) * lN 402891 + (19 : Int64) = lN (nmV 3) from by decide, hv (k := 3) (by decide)]
          refine ⟨fun n3 => ms_name4 ?_, fun n3 => ?_⟩
          · rw [if_neg n3] at hp1 hp0
            rw [lg_cmp_eq, hv (k := 4) (by decide)]
            refine ⟨fun n4 => ?_, fun n4 => ?_⟩
            · rw [if_neg n4] at hp0
              exact hp0 rfl _ (g2.to (skB t tm i))
            · rw [if_pos n4] at hp1
              have hpairs : (nI n * (nI n - (1 : Int32))) / (2 : Int32) = nI (n * (n - 1) / 2) := by
                rw [show nI n - (1 : Int32) = nI (n - 1) from pk_sub (a := n) (b := 1) (by omega), pk_mul]
                refine pk_div (d := 2) ?_ (by decide) (by decide)
                have : n * (n - 1) ≤ 6 * 6 := Nat.mul_le_mul hn (by omega)
                omega
              have h2E := Nat.two_pow_pos (n * (n - 1) / 2)
              rw [tb2.2.2.1, hM.now, tc0, tb2.2.2.2.1, hpairs, ni_shl1 _ (by omega), show nI (2 ^ (n * (n - 1) / 2)) - (1 : Int32) = nI (2 ^ (n * (n - 1) / 2) - 1) from pk_sub (a := 2 ^ (n * (n - 1) / 2)) (b := 1) h2E, hM.newPlan, nI_clamp (n := net) (by omega)]
              exact ⟨vp_in_nI hnet (by decide), hp1 rfl _ (weB t tm (skB t tm i)) (g2.put _) hw.2.1 rfl (by rw [sti_at, pk_us, alT_all n (by omega) h2])⟩
          · rw [if_pos n3] at hp1 hp0
            have hlk := lkT_pos (t := t) (tm := tm) (n := n) (tm + 1 - weB t tm (skB t tm i)) (weB t tm (skB t tm i)) 0 hw.2.1 (by omega)
            unfold wp_X11_readsLinks
            rw [hM.newPlan]
            exact ⟨tm + 1 - weB t tm (skB t tm i) + 1, lp_mlinks (post := fun r21 I21 => ((r21 = 0 ∨ r21 = 1) ∧ post r21 I21)) hM hb h2 hn hnet (tm + 1 - weB t tm (skB t tm i)) (weB t tm (skB t tm i)) 0 I2 (by omega) hw.2.1 (by decide) g2 (fun hok I' k1 k2 => ⟨Or.inr rfl, hp1 hok I' _ k1 hlk.1 rfl k2⟩) (fun hno I' k1 => ⟨Or.inl rfl, hp0 hno I' k1⟩)⟩
        · rw [if_pos n2] at hp1 hp0
          refine ms_star hM hb hn hnet g2 hw.2.1 (fun v hf I' k1 k2 => ⟨Or.inr rfl, ?_⟩) (fun hf I' k1 => ⟨Or.inl rfl, ?_⟩)
          · rw [hf] at hp1
            exact hp1 rfl I' _ k1 (fuT_some hf).2.2 rfl k2
          · rw [hf] at hp0
            exact hp0 rfl I' k1
      · rw [if_pos n1] at hp1 hp0
        have hyes : (lg_cmp w (lN (nmV 1))) = 0 := by
          rw [lg_cmp_eq]
          exact (hv (k := 1) (by decide)).mpr n1
        refine ⟨fun z => absurd hyes z, fun _ => ?_⟩
        exact ms_row2 (x := 1) hM hb h2 hn hnet g2 hw.2.1 (fun hok I' k1 k2 => ⟨Or.inr rfl, hp1 hok I' _ k1 hpos2.2 (skB_id hpos.1) k2⟩) (fun hno I' k1 => ⟨Or.inl rfl, hp0 hno I' k1⟩)
  · have := (nI_eq (b := 8) (by omega) (by decide)).mp z
    omega
