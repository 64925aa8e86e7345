/-! PURE, 44: the reference's object; all leads where it should -/
def AlQ (Q : KQ) : List (Nat × Nat × Nat) → Prop
  | [] => True
  | e :: l => rq Q e.1 e.2.1 = e.2.2 ∧ AlQ Q l
theorem AlQ.mem {Q : KQ} : ∀ {l : List (Nat × Nat × Nat)}, AlQ Q l → ∀ e, e ∈ l → rq Q e.1 e.2.1 = e.2.2 := by
  intro l
  induction l with
  | nil => intro _ e he; cases he
  | cons a l ih =>
    rintro ⟨h1, h2⟩ e he
    rcases List.mem_cons.mp he with rfl | he
    · exact h1
    · exact ih h2 e he
theorem AlQ.app {Q : KQ} {l' : List (Nat × Nat × Nat)} (h' : AlQ Q l') : ∀ {l : List (Nat × Nat × Nat)}, AlQ Q l → AlQ Q (l ++ l') := by
  intro l
  induction l with
  | nil => intro _; exact h'
  | cons a l ih => rintro ⟨h1, h2⟩; exact ⟨h1, ih h2⟩
def netE (B : Nat) : List (Nat × Nat × Nat) := [(B, 0, B + 1), (B + 1, 0, B + 2), (B, 1, B + 3), (B, 2, B + 4), (B + 3, 0, B + 5), (B + 3, 1, B + 7), (B + 3, 2, B + 9), (B + 3, 3, B + 11), (B + 3, 4, B + 13), (B + 3, 5, B + 15), (B + 5, 0, B + 6), (B + 7, 0, B + 8), (B + 9, 0, B + 10), (B + 11, 0, B + 12), (B + 13, 0, B + 14), (B + 15, 0, B + 16)]
theorem netE_ok {Q : KQ} {B : Nat} (h : NetQ Q B) : AlQ Q (netE B) := by
  obtain ⟨h1, h2, h3, h4, h5, h6⟩ := h
  exact ⟨h1, h2, h3, h4, h5 0 (by decide), h5 1 (by decide), h5 2 (by decide), h5 3 (by decide), h5 4 (by decide), h5 5 (by decide), h6 0 (by decide), h6 1 (by decide), h6 2 (by decide), h6 3 (by decide), h6 4 (by decide), h6 5 (by decide), trivial⟩
def pastE (P : Nat) : List (Nat × Nat × Nat) := [(P, 0, P + 1), (P + 1, 0, P + 2), (P + 1, 1, P + 19), (P + 1, 2, P + 36), (P + 1, 3, P + 53), (P + 1, 4, P + 70), (P + 1, 5, P + 87)] ++ (netE (P + 2) ++ (netE (P + 19) ++ (netE (P + 36) ++ (netE (P + 53) ++ (netE (P + 70) ++ netE (P + 87))))))
theorem pastE_ok {Q : KQ} {P : Nat} (h : PastQ Q P (fun i => P + 2 + 17 * i)) : AlQ Q (pastE P) := by
  obtain ⟨h1, h2, -⟩ := h
  have n : ∀ i, i < 6 → NetQ Q (P + 2 + 17 * i) := fun i hi => (h2 i hi).2.2
  have r : ∀ i, i < 6 → rq Q (P + 1) i = P + 2 + 17 * i := fun i hi => (h2 i hi).1
  exact AlQ.app (AlQ.app (AlQ.app (AlQ.app (AlQ.app (AlQ.app (netE_ok (n 5 (by decide))) (netE_ok (n 4 (by decide)))) (netE_ok (n 3 (by decide)))) (netE_ok (n 2 (by decide)))) (netE_ok (n 1 (by decide)))) (netE_ok (n 0 (by decide)))) ⟨h1, r 0 (by decide), r 1 (by decide), r 2 (by decide), r 3 (by decide), r 4 (by decide), r 5 (by decide), trivial⟩
def othE : List (Nat × Nat × Nat) := [(0, 0, 1), (0, 1, 18), (0, 2, 122), (0, 3, 139), (0, 4, 243), (0, 5, 260), (0, 6, 265), (0, 7, 269), (0, 8, 272), (0, 9, 274), (0, 10, 278), (260, 0, 261), (260, 1, 262), (260, 2, 263), (263, 0, 264), (265, 0, 266), (265, 1, 267), (265, 2, 268), (269, 0, 270), (269, 1, 271), (272, 0, 273), (274, 0, 275), (274, 1, 276), (276, 0, 277), (278, 0, 279), (278, 1, 281), (278, 2, 283), (278, 3, 285), (279, 0, 280), (281, 0, 282), (283, 0, 284), (285, 0, 286), (287, 0, 288), (287, 3, 289), (287, 7, 290), (287, 8, 291), (287, 9, 292), (287, 10, 293), (287, 11, 294), (287, 13, 295), (287, 14, 296), (287, 15, 297), (287, 16, 298), (287, 19, 299), (287, 23, 300), (287, 24, 301), (287, 25, 302), (287, 26, 303)]
theorem othE_ok {Q : KQ} (h : ClQ Q) (hM : MdQ Q) : AlQ Q othE := by
  obtain ⟨⟨a0, a1, a2, a3, a4, a5, a6, a7, a8, a9, a10⟩, ⟨-, -, -, r1, r2, r3, r4⟩, ⟨d1, d2, d3, d4, d5, d6, d7, d8, d9⟩, hr⟩ := h
  exact ⟨a0, a1, a2, a3, a4, a5, a6, a7, a8, a9, a10, r1, r2, r3, r4, d1, d2, d3, d4, d5, d6, d7, d8, d9, (hr 0 (by decide)).1, (hr 1 (by decide)).1, (hr 2 (by decide)).1, (hr 3 (by decide)).1, (hr 0 (by decide)).2, (hr 1 (by decide)).2, (hr 2 (by decide)).2, (hr 3 (by decide)).2, hM.now, hM.undos, hM.image, hM.mind, hM.old, hM.sendMany, hM.send, hM.one, hM.grown, hM.view, hM.viewThen, hM.tape, hM.newPlan, hM.lane, hM.many, hM.items, trivial⟩
def RRl : List (Nat × Nat × Nat) := othE ++ (netE 1 ++ (netE 122 ++ (netE 243 ++ (pastE 18 ++ pastE 139))))
theorem RRl_ok {Q : KQ} (h : ClQ Q) (h18 : PastQ Q 18 (fun i => 18 + 2 + 17 * i)) (h139 : PastQ Q 139 (fun i => 139 + 2 + 17 * i)) (hM : MdQ Q) : AlQ Q RRl := AlQ.app (AlQ.app (AlQ.app (AlQ.app (AlQ.app (pastE_ok h139) (pastE_ok h18)) (netE_ok h.2.1.2.2.1)) (netE_ok h.2.1.2.1)) (netE_ok h.2.1.1)) (othE_ok h hM)
def wfB (k j : Nat) : Bool := match rft (TT k) j with
  | none => true
  | some τ => RRl.any (fun e => decide (e.1 = k) && (decide (e.2.1 = j) && (decide (e.2.2 ≠ 0) && (decide (e.2.2 < 304) && decide (TT e.2.2 = τ)))))
theorem wf_chk : allQ (fun k => allQ (fun j => wfB k j) 27 0) 304 0 = true := by decide +kernel
theorem tt_small : allQ (fun k => decide ((TT k).1 < 24) || decide ((TT k).2 ≤ 6)) 304 0 = true := by decide +kernel
theorem rft_lt {σ τ : Nat × Nat} {j : Nat} (h : rft σ j = some τ) : j < 27 ∨ (24 ≤ σ.1 ∧ j < σ.2) := by
  obtain ⟨a, b⟩ := σ
  by_cases hj : j < 27
  · exact Or.inl hj
  · right
    by_cases h24 : a = 24
    · subst h24
      have h : (if j < b then some (7, 0) else none) = some τ := by simpa [rft] using h
      by_cases hb : j < b
      · exact ⟨Nat.le_refl _, hb⟩
      · rw [if_neg hb] at h; cases h
    · by_cases h25 : a = 25
      · subst h25
        have h : (if j < b then some (1, 0) else none) = some τ := by simpa [rft] using h
        by_cases hb : j < b
        · exact ⟨(show (24 : Nat) ≤ 25 by decide), hb⟩
        · rw [if_neg hb] at h; cases h
      · by_cases h26 : a = 26
        · subst h26
          have h : (if j < b then some (6, 0) else none) = some τ := by simpa [rft] using h
          by_cases hb : j < b
          · exact ⟨(show (24 : Nat) ≤ 26 by decide), hb⟩
          · rw [if_neg hb] at h; cases h
        · exfalso
          unfold rft at h
          split at h <;> first | omega | (simp at *; omega) | (cases h)
theorem wf_all {Q : KQ} (h : ClQ Q) (h18 : PastQ Q 18 (fun i => 18 + 2 + 17 * i)) (h139 : PastQ Q 139 (fun i => 139 + 2 + 17 * i)) (hM : MdQ Q) : WF (fun k => k < 304) 304 TT Q := by
  intro k hk j τ hr
  have hj : j < 27 := by
    rcases rft_lt hr with q | ⟨q1, q2⟩
    · exact q
    · have := allQ_t _ _ tt_small k (Nat.zero_le k) (by omega)
      rw [Bool.or_eq_true, decide_eq_true_iff, decide_eq_true_iff] at this
      omega
  have hc := allQ_t _ _ (allQ_t _ _ wf_chk k (Nat.zero_le k) (by omega)) j (Nat.zero_le j) (by omega)
  unfold wfB at hc
  rw [hr] at hc
  simp only [List.any_eq_true, Bool.and_eq_true, decide_eq_true_iff] at hc
  obtain ⟨e, he, e1, e2, e3, e4, e5⟩ := hc
  have hq := (RRl_ok h h18 h139 hM).mem e he
  rw [e1, e2] at hq
  refine ⟨e.2.2, ?_, e4, e4, e5⟩
  unfold rq at hq
  cases hQ : Q k j with
  | none => rw [hQ] at hq; exact absurd hq.symm e3
  | some x => rw [hQ] at hq; rw [← hq]; rfl
theorem init_tail {If : KI} {Jf : KJ} {Qf : KQ} {post : KI → KJ → KQ → Prop} (hW : WF (fun k => k < 304) 304 TT Qf) (hM : MdQ Qf) (h0 : ∀ i, i < 6 → If 288 i = nI (sc0 i)) (hp : ∀ I', (∀ k, k ≠ 288 → I' k = If k) → RowIs (I' 288) SI → post I' Jf Qf) : ∃ Z : Nat → Prop, WF Z 304 TT Qf ∧ OKr Z 304 TT 287 (11, 0) ∧ wp_X11_laysPath If Qf 287 (fun I17 => (∃ Z : Nat → Prop, WF Z 304 TT Qf ∧ OKr Z 304 TT 287 (11, 0) ∧ wp_X11_forgets I17 Qf 287 (fun I18 => post I18 Jf Qf))) := by
  have ok : OKr (fun k => k < 304) 304 TT 287 (11, 0) := ⟨(by decide), (by decide), by decide +kernel⟩
  refine ⟨_, hW, ok, ms_laysPath (n := 4) hM (by decide) (by decide) (h0 0 (by decide)) (fun I1 w1 w2 w3 w4 => ⟨_, hW, ok, ?_⟩)⟩
  refine ms_forgets (S := (sc0, fun _ => ptT 4, fun _ _ => 0, fun _ => 0)) hM ⟨fun i hi => ?_, fun i hi => ?_⟩ (by show 1 ≤ 8; decide) (fun I2 y1 y2 => hp I2 (fun k hk => by rw [y1 k hk, w1 k hk]) y2)
  · by_cases h6 : i = 6
    · subst h6; exact w3
    · rw [w2 i h6 (by omega)]
      exact h0 i (by omega)
  · have hi1 : i < 1 := hi
    have : i = 0 := by omega
    subst this
    exact w4
set_option maxHeartbeats 8000000 in
theorem sp_ref_init {I : KI} {J : KJ} {Q : KQ} {post : KI → KJ → KQ → Prop} (hw : ∀ Q', (∀ k, k < 287 → Q' k = Q k) → MdQ Q' → WF (fun k => k < 304) 304 TT Q') (hp : ∀ I' J' Q', (∀ k, k < 287 → I' k = I k) → (∀ k, k < 287 → Q' k = Q k) → MdQ Q' → RowIs (I' 288) SI → (∀ j, I' 287 j = 0) → (∀ s, s < 4 → I' 302 s = -1) → post I' J' Q') : wp_X11_init (upk I 287 zI) (upk J 287 zJ) (upk Q 287 zQ) TT 288 287 post := by
  unfold wp_X11_init
  simp only [Nat.reduceAdd, tc0, tc1, tc2, tc3, tc5]
  refine ⟨by decide +kernel, by decide +kernel, by decide +kernel, by decide +kernel, by decide +kernel, by decide +kernel, by decide +kernel, by decide +kernel, by decide +kernel, by decide +kernel, by decide +kernel, by decide +kernel, by decide +kernel, by decide +kernel, by decide +kernel, by decide +kernel, by simp [stq, upk, va_up], by simp [stq, upk, va_up], by simp [stq, upk, va_up], by simp [stq, upk, va_up], ?_⟩
  have fr : ∀ {k : Nat}, k < 287 → ∀ q, 287 ≤ q → k ≠ q := fun hk q hq => by omega
  refine init_tail (hw _ (fun k hk => ?_) ?_) ?_ (fun i hi => ?_) (fun I' w1 w2 => hp _ _ _ (fun k hk => ?_) (fun k hk => ?_) ?_ w2 (fun j => ?_) (fun s hs => ?_))
  · have e := fr hk
    simp [stq, upk, e]
  · intro j hj
    simp only [List.mem_cons, List.not_mem_nil, or_false] at hj
    rcases hj with rfl | rfl | rfl | rfl | rfl | rfl | rfl | rfl | rfl | rfl | rfl | rfl | rfl | rfl | rfl | rfl <;> simp [rq, stq, upk, va_up, mqN]
  · intro j hj
    simp only [List.mem_cons, List.not_mem_nil, or_false] at hj
    rcases hj with rfl | rfl | rfl | rfl | rfl | rfl | rfl | rfl | rfl | rfl | rfl | rfl | rfl | rfl | rfl | rfl <;> simp [rq, stq, upk, va_up, mqN]
  · rcases (show i = 0 ∨ i = 1 ∨ i = 2 ∨ i = 3 ∨ i = 4 ∨ i = 5 by omega) with rfl | rfl | rfl | rfl | rfl | rfl
    · refine Eq.trans ?_ (show (4 : Int32) = nI (sc0 0) from rfl); simp [sti, upk, upd]
    · refine Eq.trans ?_ (show (4 : Int32) = nI (sc0 1) from rfl); simp [sti, upk, upd]
    · refine Eq.trans ?_ (show (0 : Int32) = nI (sc0 2) from rfl); simp [sti, upk, upd, zI]
    · refine Eq.trans ?_ (show (1 : Int32) = nI (sc0 3) from rfl); simp [sti, upk, upd]
    · refine Eq.trans ?_ (show (0 : Int32) = nI (sc0 4) from rfl); simp [sti, upk, upd, zI]
    · refine Eq.trans ?_ (show (1 : Int32) = nI (sc0 5) from rfl); simp [sti, upk, upd]
  · rw [w1 k (by omega)]
    have e := fr hk
    simp [sti, upk, e]
  · have e := fr hk
    simp [stq, upk, e]
  · intro j hj
    simp only [List.mem_cons, List.not_mem_nil, or_false] at hj
    rcases hj with rfl | rfl | rfl | rfl | rfl | rfl | rfl | rfl | rfl | rfl | rfl | rfl | rfl | rfl | rfl | rfl <;> simp [rq, stq, upk, va_up, mqN]
  · rw [w1 287 (by decide)]
    simp [sti, upk, zI]
  · rw [w1 302 (by decide)]
    rcases (show s = 0 ∨ s = 1 ∨ s = 2 ∨ s = 3 by omega) with rfl | rfl | rfl | rfl <;> simp [sti, upk, upd]
