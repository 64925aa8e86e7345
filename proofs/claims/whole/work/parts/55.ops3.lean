/-! PURE, 18: go, foreseen -/
theorem fulT_n (S : Snap) : fulT S (S.1 0) ≤ S.1 0 := fulT_le S _
theorem run_r (S : Snap) : ∀ d, (runT S d).2.1 4 ≤ S.1 4 + d ∧ (runT S d).2.1 0 = S.1 0 := by
  intro d
  induction d generalizing S with
  | zero => exact ⟨Nat.le_refl _, rfl⟩
  | succ d ih =>
    by_cases h : fulT S (S.1 0) = S.1 0
    · have e : runT S (d + 1) = (0, S) := by simp [runT, h]
      rw [e]
      exact ⟨by show S.1 4 ≤ _; omega, rfl⟩
    · have e : runT S (d + 1) = ((runT (stepS S) d).1 + 1, (runT (stepS S) d).2) := by simp [runT, h]
      rw [e]
      have := ih (stepS S)
      rw [stepS_4, stepS_0] at this
      exact ⟨by show (runT (stepS S) d).2.1 4 ≤ _; omega, this.2⟩
theorem run_le (S : Snap) : ∀ d, (runT S d).1 ≤ d := by
  intro d
  induction d generalizing S with
  | zero => exact Nat.le_refl _
  | succ d ih =>
    by_cases h : fulT S (S.1 0) = S.1 0
    · have e : runT S (d + 1) = (0, S) := by simp [runT, h]
      rw [e]; exact Nat.zero_le _
    · have e : runT S (d + 1) = ((runT (stepS S) d).1 + 1, (runT (stepS S) d).2) := by simp [runT, h]
      rw [e]
      have := ih (stepS S)
      show (runT (stepS S) d).1 + 1 ≤ d + 1
      omega
/-- the cells that the reference's rounds leave -/
def FrG (I0 I : KI) : Prop := (∀ q, q ≠ 287 → q ≠ 288 → q ≠ 292 → q ≠ 293 → q ≠ 294 → I q = I0 q) ∧ ∀ j, j ≠ 12 → I 287 j = I0 287 j
theorem FrG.refl (I : KI) : FrG I I := ⟨fun _ _ _ _ _ _ => rfl, fun _ _ => rfl⟩
theorem FrG.trans {I0 I I' : KI} (h : FrG I0 I) (h2 : FrG I I') : FrG I0 I' := ⟨fun q a b c d e => by rw [h2.1 q a b c d e, h.1 q a b c d e], fun j hj => by rw [h2.2 j hj, h.2 j hj]⟩
theorem lp_mgo {Q : KQ} {m : Nat} (hM : MdQ Q) (hm : m < 2 ^ 30) {post : Int32 → KI → Prop} (I0 : KI) : ∀ d i I S, i + d = m → RowIs (I 288) S → Gs S → S.1 4 + d < 2 ^ 31 → FrG I0 I → (∀ I', FrG I0 I' → RowIs (I' 288) (runT S d).2 → Gs (runT S d).2 → post (nI (i + (runT S d).1)) I') → wp_X11_go_L36 Q 287 (nI m) post (d + 1) I (nI i) := by
  intro d
  induction d with
  | zero =>
    intro i I S hi hN hG hr hf hp
    have : i = m := by omega
    subst this
    unfold wp_X11_go_L36
    exact br_t (nI_le (Nat.le_refl _) (by omega)) (hp I hf hN hG)
  | succ d ih =>
    intro i I S hi hN hG hr hf hp
    have hn := hG.1
    have hfl := fulT_n S
    unfold wp_X11_go_L36
    rw [hM.now, tc0, hN.n, nI_1]
    refine br_f (nI_ge (by omega) (by omega)) (ms_whole hM hN hG ⟨fun c => ?_, fun c => ?_⟩)
    · have hle := (nI_leI (by omega) (by omega)).mp c
      have e : runT S (d + 1) = (0, S) := by simp [runT, show fulT S (S.1 0) = S.1 0 by omega]
      rw [e] at hp
      exact hp I hf hN hG
    · have hne : ¬ fulT S (S.1 0) = S.1 0 := fun z => c (nI_le (by omega) (by omega))
      have e : runT S (d + 1) = ((runT (stepS S) d).1 + 1, (runT (stepS S) d).2) := by simp [runT, hne]
      rw [e] at hp
      refine ms_goes hM hN hG (by omega) (fun I1 w1 w2 w3 => ?_)
      refine ih (i + 1) I1 (stepS S) (by omega) w3 (Gs_step hG) (by rw [stepS_4]; omega) (hf.trans ⟨w1, w2⟩) (fun I' z1 z2 z3 => ?_)
      have := hp I' z1 z2 z3
      rw [show i + 1 + (runT (stepS S) d).1 = i + ((runT (stepS S) d).1 + 1) by omega]
      exact this
theorem lp_mfore {Q : KQ} (hM : MdQ Q) {kk : KI → Int32 → Prop} (I0 : KI) : ∀ d i I S, i + d = 60 → RowIs (I 288) S → Gs S → S.1 4 + d < 2 ^ 31 → FrG I0 I → (∀ I', FrG I0 I' → RowIs (I' 288) (runT S d).2 → Gs (runT S d).2 → kk I' (nI (i + (runT S d).1))) → wp_X11_foreseen_L17 Q 287 kk (d + 1) I (nI i) := by
  intro d
  induction d with
  | zero =>
    intro i I S hi hN hG hr hf hp
    have : i = 60 := by omega
    subst this
    unfold wp_X11_foreseen_L17
    exact br_t (nI_le (a := 60) (Nat.le_refl _) (by decide)) (hp I hf hN hG)
  | succ d ih =>
    intro i I S hi hN hG hr hf hp
    have hn := hG.1
    have hfl := fulT_n S
    unfold wp_X11_foreseen_L17
    rw [hM.now, tc0, hN.n, nI_1]
    refine br_f (nI_ge (b := 60) (by omega) (by decide)) (ms_whole hM hN hG ⟨fun c => ?_, fun c => ?_⟩)
    · have hle := (nI_leI (by omega) (by omega)).mp c
      have e : runT S (d + 1) = (0, S) := by simp [runT, show fulT S (S.1 0) = S.1 0 by omega]
      rw [e] at hp
      exact hp I hf hN hG
    · have hne : ¬ fulT S (S.1 0) = S.1 0 := fun z => c (nI_le (by omega) (by omega))
      have e : runT S (d + 1) = ((runT (stepS S) d).1 + 1, (runT (stepS S) d).2) := by simp [runT, hne]
      rw [e] at hp
      refine ms_goes hM hN hG (by omega) (fun I1 w1 w2 w3 => ?_)
      refine ih (i + 1) I1 (stepS S) (by omega) w3 (Gs_step hG) (by rw [stepS_4]; omega) (hf.trans ⟨w1, w2⟩) (fun I' z1 z2 z3 => ?_)
      have := hp I' z1 z2 z3
      rw [show i + 1 + (runT (stepS S) d).1 = i + ((runT (stepS S) d).1 + 1) by omega]
      exact this
set_option maxHeartbeats 1000000 in
theorem op_go {I : KI} {J : KJ} {Q : KQ} {b : Nat} {x1 : Int32} {post : Int32 → KI → KQ → Prop} (h : Rel I J Q b) (hb31 : b < 2 ^ 30) (hp : ∀ r I4 Q4, (∀ p2 : Int32 → KI → Prop, (∀ I5, Rel I5 J Q4 (b + 100) → p2 r I5) → wp_X11_go I4 Q4 287 x1 p2) → post r I4 Q4) : wp_X10_go I Q 0 x1 post := by
  have hmo : Rel I J Q (b + 100) := h.mono (by omega)
  obtain ⟨hR, π, hP, S, hs, m, hC⟩ := id h
  obtain ⟨c1, c2, c3, c4, ⟨a, ha, c5, c6⟩, hG, hb, hH⟩ := hC
  obtain ⟨⟨a0, a1, a2, a3, a4, a5, -⟩, ⟨q1, q2, q3, q4⟩, -, -, hM⟩ := id hR.1
  have hn := hG.1
  have hfl := fulT_n S
  unfold wp_X10_go
  rw [a0, a1]
  rcases inCase x1 1 20 with ⟨k, hk1, hk2, rfl⟩ | hno
  · refine ⟨fun c => absurd c (nI_nlt (b := 1) hk1 (by omega)), fun _ => ⟨fun _ => sp_allFull q1 c1 hG ⟨fun c => ?_, fun c => hp _ _ _ (fun p2 h2 => ?_)⟩, fun c => absurd (nI_le (b := 20) hk2 (by decide)) c⟩⟩
    · have hne := of_decide_eq_false ((bI_eq _).mp c)
      refine sp_keep hP c2 q1 c1 hG.2.2.2.2.2.1.2 (by omega) (fun I' Q' π' w1 w2 w3 w4 => ?_)
      have hQ' := hR.1.fr w2
      obtain ⟨⟨a0', a1', -, -, -, a5', -⟩, ⟨q1', -, -, q4'⟩, -, -, hM'⟩ := id hQ'
      have n1 : NetIs I' 1 S := c1.fr (fun k z1 z2 => w1 k (by omega))
      rw [a0', a5']
      refine sp_run q4' q1' (by omega) (by omega) n1 hG (by omega) (fun I2 z1 z2 z3 => hp _ _ _ (fun p2 h2 => ?_))
      have f1 : ∀ q, (122 ≤ q ∧ q < 260 ∨ 263 ≤ q ∨ q = 0) → I2 q = I q := fun q hq => by rw [z1 q (by omega) (by omega) (by omega) (by omega), w1 q (by omega)]
      have f2 : ∀ q, 18 ≤ q → q < 122 → I2 q = I' q := fun q u1 u2 => z1 q (by omega) (by omega) (by omega) (by omega)
      have e288 : I2 288 = I 288 := f1 288 (by omega)
      have e287 : I2 287 = I 287 := f1 287 (by omega)
      unfold wp_X11_go
      refine ms_in1 (lo := 1) (hi := 20) hk1 hk2 (by decide) ⟨fun _ => ms_whole hM' (by rw [e288]; exact c3) hG ?_, fun c => absurd c (by decide)⟩
      rw [hM'.now, tc0, e288, c3.n, nI_eq (by omega) (by omega)]
      refine ⟨fun _ => ms_remembers hM' (by rw [e288]; exact c3) hG hH (by rw [e287]; exact c4) (by rw [e287]; exact c5) c2.2.1 ha (by rw [f1 289 (by omega)]; exact c6) (fun I3 y1 y2 y3 y4 y5 => ⟨k + 1, ?_⟩), fun c => absurd c hne⟩
      have e288' : I3 288 = I 288 := by rw [y1 288 (by decide) (by decide), e288]
      refine lp_mgo hM' (by omega) I3 k 0 I3 S (by omega) (by rw [e288']; exact c3) hG (by omega) (FrG.refl I3) (fun I5 u1 u2 u3 => ?_)
      have hrr := run_r S k
      rw [Nat.zero_add]
      refine h2 I5 ⟨hR.fr (by omega) w2 ⟨fun q hq => ?_, ?_, fun j hj => ?_⟩, π', w3, (runT S k).2, keepH m hs S, keepN m, RelC.mk2 ?_ ?_ u2 ?_ (show (a + 1) % 6 < 6 by omega) ?_ ?_ u3 (by omega) ((hH.keep hG hb c2.2.1).mono (by omega))⟩
      · rw [u1.1 q (by omega) (by omega) (by omega) (by omega) (by omega), y1 q (by omega) (by omega), f1 q (by omega)]
      · rw [u1.1 274 (by omega) (by omega) (by omega) (by omega) (by omega), y1 274 (by omega) (by omega), f1 274 (by omega)]
      · rw [u1.2 j (by omega), y2 j (by omega) (by omega), e287]
      · exact z2.fr (fun q d1 d2 => by rw [u1.1 q (by omega) (by omega) (by omega) (by omega) (by omega), y1 q (by omega) (by omega)])
      · exact w4.fr w3 (fun q d1 d2 => by rw [u1.1 q (by omega) (by omega) (by omega) (by omega) (by omega), y1 q (by omega) (by omega), f2 q d1 (by omega)])
      · rw [u1.2 1 (by decide)]; exact y3
      · rw [u1.2 2 (by decide)]; exact y4
      · rw [u1.1 289 (by omega) (by omega) (by omega) (by omega) (by omega)]; exact y5
    · have hfull := of_decide_eq_true ((bI_ne _).mp c)
      unfold wp_X11_go
      refine ms_in1 (lo := 1) (hi := 20) hk1 hk2 (by decide) ⟨fun _ => ms_whole hM c3 hG ?_, fun c => absurd c (by decide)⟩
      rw [hM.now, tc0, c3.n, nI_eq (by omega) (by omega)]
      exact ⟨fun c => absurd hfull c, fun _ => h2 I hmo⟩
  · have hq : ∀ p2 : Int32 → KI → Prop, (∀ I5, Rel I5 J Q (b + 100) → p2 (-1) I5) → wp_X11_go I Q 287 x1 p2 := fun p2 h2 => by
      unfold wp_X11_go
      exact ms_in0 (lo := 1) (hi := 20) hno (by decide) (by decide) ⟨fun c => absurd rfl c, fun _ => h2 I hmo⟩
    exact ⟨fun _ => hp _ _ _ hq, fun c1 => ⟨fun c2 => absurd (rng_no hno (by decide) (by decide) c1 c2) id, fun _ => hp _ _ _ hq⟩⟩
set_option maxHeartbeats 1000000 in
theorem op_foreseen {I : KI} {J : KJ} {Q : KQ} {b : Nat} {post : Int32 → KI → Prop} (h : Rel I J Q b) (hb31 : b < 2 ^ 30) (hp : ∀ r I4, (∀ p2 : Int32 → KI → Prop, (∀ I5, Rel I5 J Q b → p2 r I5) → wp_X11_foreseen I4 Q 287 p2) → post r I4) : wp_X10_foreseen I Q 0 post := by
  obtain ⟨hR, π, hP, S, hs, m, hC⟩ := id h
  obtain ⟨c1, c2, c3, c4, ⟨a, ha, c5, c6⟩, hG, hb, hH⟩ := id hC
  obtain ⟨⟨a0, a1, a2, a3, a4, a5, -⟩, ⟨q1, q2, q3, q4⟩, -, -, hM⟩ := id hR.1
  have hn := hG.1
  have h8 := hG.2.2.2.2.2.1.2
  have hrr := run_r S 60
  have hrl := run_le S 60
  have hfl := fulT_n (runT S 60).2
  unfold wp_X10_foreseen
  rw [a0, a4, a5]
  refine sp_take q3 q1 (by omega) c1 h8 (fun I1 w1 w2 => sp_run (m := 60) q4 q3 (by omega) (by omega) w2 hG (by omega) (fun I2 z1 z2 z3 => sp_allFull q3 z2 z3 ?_))
  have f1 : ∀ q, (q < 243 ∨ 263 ≤ q) → I2 q = I q := fun q hq => by rw [z1 q (by omega) (by omega) (by omega) (by omega), w1 q (by omega)]
  have mod : ∀ (p2 : Int32 → KI → Prop), (∀ I5, Rel I5 J Q b → (¬ fulT (runT S 60).2 ((runT S 60).2.1 0) = (runT S 60).2.1 0 → p2 (-4) I5) ∧ (fulT (runT S 60).2 ((runT S 60).2.1 0) = (runT S 60).2.1 0 → p2 (nI (runT S 60).1) I5)) → wp_X11_foreseen I2 Q 287 p2 := by
    intro p2 h2
    have e288 : I2 288 = I 288 := f1 288 (by omega)
    unfold wp_X11_foreseen
    rw [hM.now, hM.mind]
    refine ms_copies (i := 0) (j := 0) (n := 69) (by decide) (by omega) (by omega) (by decide) (by decide) ⟨61, ?_⟩
    have g1 : ∀ q, q ≠ 291 → cpi I2 288 291 0 0 69 q = I2 q := fun q hq => cpi_ne _ _ _ _ _ _ hq
    refine lp_mfore hM (cpi I2 288 291 0 0 69) 60 0 _ S rfl (by rw [g1 288 (by decide), e288]; exact c3) hG (by omega) (FrG.refl _) (fun I3 u1 u2 u3 => ?_)
    refine ms_whole hM u2 u3 ?_
    have hrel : ∀ I5, I5 = cpi I3 291 288 0 0 69 → Rel I5 J Q b := by
      intro I5 hI5
      have k1 : ∀ q, q ≠ 288 → I5 q = I3 q := fun q hq => by rw [hI5, cpi_ne _ _ _ _ _ _ hq]
      have k2 : ∀ q, q ≠ 287 → q ≠ 288 → q ≠ 291 → q ≠ 292 → q ≠ 293 → q ≠ 294 → I5 q = I2 q := fun q d1 d2 d3 d4 d5 d6 => by rw [k1 q d2, u1.1 q d1 d2 d4 d5 d6, g1 q d3]
      have k3 : ∀ j, j ≠ 12 → I5 287 j = I 287 j := fun j hj => by rw [k1 287 (by decide), u1.2 j hj, g1 287 (by decide), f1 287 (by omega)]
      refine ⟨hR.fr (Nat.le_refl b) (fun _ _ => rfl) ⟨fun q hq => ?_, ?_, fun j hj => k3 j (by omega)⟩, π, hP, S, hs, m, RelC.mk2 ?_ ?_ ?_ ?_ ha ?_ ?_ hG hb hH⟩
      · rw [k2 q (by omega) (by omega) (by omega) (by omega) (by omega) (by omega), f1 q (by omega)]
      · rw [k2 274 (by omega) (by omega) (by omega) (by omega) (by omega) (by omega), f1 274 (by omega)]
      · exact c1.fr (fun q d1 d2 => by rw [k2 q (by omega) (by omega) (by omega) (by omega) (by omega) (by omega), f1 q (by omega)])
      · exact c2.fr hP (fun q d1 d2 => by rw [k2 q (by omega) (by omega) (by omega) (by omega) (by omega) (by omega), f1 q (by omega)])
      · refine c3.congr h8 (fun t ht => ?_)
        rw [hI5, cpi_in _ _ _ _ _ _ (by omega) (by omega), u1.1 291 (by decide) (by decide) (by decide) (by decide) (by decide), cpi_in _ _ _ _ _ _ (by omega) (by omega), e288]
        congr 1
        omega
      · rw [k3 1 (by decide)]; exact c4
      · rw [k3 2 (by decide)]; exact c5
      · rw [k2 289 (by omega) (by omega) (by omega) (by omega) (by omega) (by omega), f1 289 (by omega)]; exact c6
    rw [tc0, u2.n, nI_eq (by omega) (by omega)]
    have hfin := h2 _ (hrel _ rfl)
    refine ⟨fun c => ms_copies (i := 0) (j := 0) (n := 69) (by decide) (by omega) (by omega) (by decide) (by decide) (hfin.1 c), fun c => ms_copies (i := 0) (j := 0) (n := 69) (by decide) (by omega) (by omega) (by decide) (by decide) ?_⟩
    rw [Nat.zero_add]
    exact hfin.2 c
  refine ⟨fun c => hp _ _ (fun p2 h2 => mod p2 (fun I5 hr => ⟨fun _ => h2 I5 hr, fun c' => ?_⟩)), fun c => hp _ _ (fun p2 h2 => mod p2 (fun I5 hr => ⟨fun c' => ?_, fun _ => h2 I5 hr⟩))⟩
  · exact absurd c' (of_decide_eq_false ((bI_eq _).mp c))
  · exact absurd (of_decide_eq_true ((bI_ne _).mp c)) c'
/-! undo, seed -/
theorem op_undo {I : KI} {J : KJ} {Q : KQ} {b : Nat} {post : Int32 → KI → Prop} (h : Rel I J Q b) (hp : ∀ r I4, (∀ p2 : Int32 → KI → Prop, (∀ I5, Rel I5 J Q b → p2 r I5) → wp_X11_undo I4 Q 287 p2) → post r I4) : wp_X10_undo I Q 0 post := by
  obtain ⟨hR, π, hP, S, hs, m, hC⟩ := id h
  obtain ⟨c1, c2, c3, c4, ⟨a, ha, c5, c6⟩, hG, hb, hH⟩ := id hC
  obtain ⟨⟨a0, a1, -⟩, ⟨q1, -⟩, -, -, hM⟩ := id hR.1
  have hm6 := c2.2.1
  unfold wp_X10_undo
  rw [a0, a1]
  refine sp_back hP c2 (fun i hi => (hH i hi).1.2.2.2.2.2.1.2) q1 (by omega) (fun hm0 => ⟨fun _ => hp _ _ (fun p2 h2 => ?_), fun c => absurd rfl c⟩) (fun I' hm w1 w2 w3 => ⟨fun c => absurd c (by decide), fun _ => ?_⟩)
  · unfold wp_X11_undo
    rw [c4, hm0]
    exact ⟨fun c => absurd rfl c, fun _ => h2 I h⟩
  · rw [w2.1]
    refine hp _ _ (fun p2 h2 => ?_)
    obtain ⟨hG', hb'⟩ := hH (m - 1) (by omega)
    have e : ∀ q, 122 ≤ q → I' q = I q := fun q hq => w1 q (by omega) (by omega)
    unfold wp_X11_undo
    have e2 : (((I 287 2 + 6) - 1) - ((I 287 2 + 6) - 1) / (6 : Int32) * (6 : Int32)) = nI ((a + 5) % 6) := by
      rw [c5, show (nI a + (6 : Int32)) = nI (a + 6) from nI_add a 6, show nI (a + 6) - (1 : Int32) = nI (a + 5) from pk_sub (a := a + 6) (b := 1) (by omega)]
      exact pk_rem (by omega) (by decide) (by decide)
    rw [e 287 (by omega), e2, c4, hM.undos, hM.now]
    have e3 : sti I' 287 2 (nI ((a + 5) % 6)) 287 1 = nI m := by rw [sti_at, pk_un (by decide), e 287 (by omega), c4]
    rw [e3, show nI m - (1 : Int32) = nI (m - 1) from pk_sub (a := m) (b := 1) hm]
    have e4 : sti (sti I' 287 2 (nI ((a + 5) % 6))) 287 1 (nI (m - 1)) 287 2 = nI ((a + 5) % 6) := by rw [sti_at, pk_un (by decide), sti_at, pk_us]
    rw [e4, show (69 : Int32) * nI ((a + 5) % 6) = nI (69 * ((a + 5) % 6)) from pk_mul 69 _]
    refine ⟨fun _ => ms_copies (i := 69 * ((a + 5) % 6)) (j := 0) (n := 69) (by decide) (by omega) (by omega) (by decide) (by decide) ?_, fun c => absurd c (nI_ne0 (by omega) (by omega))⟩
    have k1 : cpi (sti (sti I' 287 2 (nI ((a + 5) % 6))) 287 1 (nI (m - 1))) 289 288 (69 * ((a + 5) % 6)) 0 69 287 1 = nI (m - 1) := by rw [cpi_ne _ _ _ _ _ _ (by decide), sti_at, pk_us]
    rw [k1]
    have k2 : ∀ q, q ≠ 287 → q ≠ 288 → cpi (sti (sti I' 287 2 (nI ((a + 5) % 6))) 287 1 (nI (m - 1))) 289 288 (69 * ((a + 5) % 6)) 0 69 q = I' q := fun q d1 d2 => by rw [cpi_ne _ _ _ _ _ _ d2, sti_ne _ _ _ d1, sti_ne _ _ _ d1]
    refine h2 _ ⟨hR.fr (Nat.le_refl b) (fun _ _ => rfl) ⟨fun q hq => ?_, ?_, fun j hj => ?_⟩, π, hP, hs (m - 1), hs, m - 1, RelC.mk2 ?_ ?_ ?_ k1 (show (a + 5) % 6 < 6 by omega) ?_ ?_ hG' hb' (fun i hi => hH i (by omega))⟩
    · rw [k2 q (by omega) (by omega)]; exact w1 q (by omega) (by omega)
    · rw [k2 274 (by omega) (by omega), e 274 (by omega)]
    · rw [cpi_ne _ _ _ _ _ _ (by decide), sti_at, pk_un (by omega), sti_at, pk_un (by omega), e 287 (by omega)]
    · exact w3.fr (fun q d1 d2 => k2 q (by omega) (by omega))
    · exact w2.fr hP (fun q d1 d2 => k2 q (by omega) (by omega))
    · have h6 := c6 (m - 1) (by omega)
      rw [show (a + 6 - m + (m - 1)) % 6 = (a + 5) % 6 by omega] at h6
      refine h6.congr hG'.2.2.2.2.2.1.2 (fun t ht => ?_)
      rw [cpi_in _ _ _ _ _ _ (by omega) (by omega), sti_ne _ _ _ (by decide), sti_ne _ _ _ (by decide), e 289 (by omega)]
      congr 1
    · rw [cpi_ne _ _ _ _ _ _ (by decide), sti_at, pk_un (by decide), sti_at, pk_us]
    · rw [k2 289 (by omega) (by omega), e 289 (by omega)]
      intro i hi
      have h6 := c6 i (by omega)
      rw [show ((a + 5) % 6 + 6 - (m - 1) + i) % 6 = (a + 6 - m + i) % 6 by omega]
      exact h6
theorem op_seed {I : KI} {J : KJ} {Q : KQ} {b : Nat} {x1 : Int32} {post : Int32 → KI → Prop} (h : Rel I J Q b) (hp : ∀ r I4, (∀ p2 : Int32 → KI → Prop, (∀ I5, Rel I5 J Q b → p2 r I5) → wp_X11_seed I4 Q 287 x1 p2) → post r I4) : wp_X10_seed I Q 0 x1 post := by
  obtain ⟨hR, π, hP, S, hs, m, hC⟩ := id h
  obtain ⟨c1, c2, c3, c4, ⟨a, ha, c5, c6⟩, hG, hb, hH⟩ := id hC
  obtain ⟨⟨a0, a1, -⟩, ⟨q1, -⟩, -, -, hM⟩ := id hR.1
  unfold wp_X10_seed
  rw [a0, show I 1 8 = nI (S.1 5) from c1.1 5 (by omega)]
  refine ⟨fun c => hp _ _ (fun p2 h2 => ?_), fun c => hp _ _ (fun p2 h2 => ?_)⟩
  · obtain ⟨d, hd, rfl⟩ := nI_of (x := x1) (fun z => by
      rw [Int32.lt_iff_toInt_lt] at z; rw [Int32.le_iff_toInt_le] at c; omega)
    have e : ∀ q, q ≠ 1 → sti I 1 8 (nI d) q = I q := fun q hq => sti_ne _ _ _ hq
    unfold wp_X11_seed
    rw [hM.now, tc5, e 288 (by decide), c3.d]
    refine ⟨fun _ => h2 _ ?_, fun c' => absurd c c'⟩
    have k2 : ∀ q, q ≠ 1 → q ≠ 288 → sti (sti I 1 8 (nI d)) 288 5 (nI d) q = I q := fun q d1 d2 => by rw [sti_ne _ _ _ d2, e q d1]
    have n1 : NetIs (sti I 1 8 (nI d)) 1 (setC S 5 d) := c1.stC (i := 5) (by omega) (by omega)
    have hG' : Gs (setC S 5 d) := by
      obtain ⟨g1, g2, g3, g4, g5, g6, g7, g8, g9⟩ := hG
      exact ⟨g1, g2, g3, g4, (by show upk S.1 5 d 5 < 2 ^ 31; rw [upk_s]; exact hd), g6, g7, g8, g9⟩
    refine ⟨hR.fr (Nat.le_refl b) (fun _ _ => rfl) ⟨fun q hq => k2 q (by omega) (by omega), ?_, fun j hj => ?_⟩, π, hP, setC S 5 d, hs, m, RelC.mk2 (n1.fr (fun q _ _ => sti_ne _ _ _ (by omega))) (c2.fr hP (fun q _ _ => k2 q (by omega) (by omega))) ?_ ?_ ha ?_ ?_ hG' ?_ hH⟩
    · rw [k2 274 (by omega) (by omega)]
    · rw [k2 287 (by omega) (by omega)]
    · rw [sti_at, e 288 (by decide)]; exact c3.stC (by decide)
    · rw [k2 287 (by omega) (by omega)]; exact c4
    · rw [k2 287 (by omega) (by omega)]; exact c5
    · rw [k2 289 (by omega) (by omega)]; exact c6
    · show upk S.1 5 d 4 ≤ b
      rw [upk_n (by decide)]; exact hb
  · unfold wp_X11_seed
    exact ⟨fun c' => absurd c' c, fun _ => h2 I h⟩
