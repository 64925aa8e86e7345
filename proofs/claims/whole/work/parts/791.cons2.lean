/-! PURE, 43: a new object of the class, whole -/
def PsC (Q0 Q : KQ) (P c : Nat) : Prop := (∀ k, (k < P ∨ P + 104 ≤ k) → Q k = Q0 k) ∧ Q P 0 = some (P + 1) ∧ ∀ i, i < c → rq Q (P + 1) i = P + 2 + 17 * i ∧ NetQ Q (P + 2 + 17 * i)
theorem PsC.step {Q0 Q Q' : KQ} {P c B : Nat} (h : PsC Q0 Q P c) (hc : c < 6) (hB : B = P + 2 + 17 * c) (hf : ∀ k, (k < B ∨ B + 17 ≤ k) → Q' k = upk Q B zQ k) (hn : NetQ Q' B) : PsC Q0 (stq Q' (P + 1) c B) P (c + 1) := by
  obtain ⟨h1, h2, h3⟩ := h
  have e : ∀ k, (k < B ∨ B + 17 ≤ k) → Q' k = Q k := fun k hk => by rw [hf k hk, upk_n (by omega)]
  refine ⟨fun k hk => ?_, ?_, fun i hi => ⟨?_, ?_⟩⟩
  · rw [stq_ne _ _ _ _ (by omega), e k (by omega)]
    exact h1 k hk
  · rw [stq_ne _ _ _ _ (by omega), e P (by omega)]
    exact h2
  · by_cases hic : i = c
    · subst hic
      rw [rq_stq]
      exact hB
    · rw [rq_stq_n _ _ _ _ hic, rq_fr (e (P + 1) (by omega))]
      exact (h3 i (by omega)).1
  · by_cases hic : i = c
    · subst hic
      rw [← hB]
      exact hn.fr (fun k k1 k2 => stq_ne _ _ _ _ (by omega))
    · exact (h3 i (by omega)).2.fr (fun k k1 k2 => by rw [stq_ne _ _ _ _ (by omega), e k (by omega)])
theorem PsC.past {Q0 Q : KQ} {P : Nat} (h : PsC Q0 Q P 6) : PastQ Q P (fun i => P + 2 + 17 * i) := by
  obtain ⟨-, h2, h3⟩ := h
  refine ⟨by unfold rq; rw [h2]; rfl, fun i hi => ⟨(h3 i hi).1, ⟨i, hi, rfl⟩, (h3 i hi).2⟩, fun i hi j hj hij => ?_⟩
  show P + 2 + 17 * i ≠ P + 2 + 17 * j
  omega
set_option maxHeartbeats 4000000 in
theorem sp_past_init {I : KI} {J : KJ} {Q : KQ} {T : Nat → Nat × Nat} {P : Nat} {post : KI → KJ → KQ → Prop} (hT0 : T (P + 1) = (25, 6)) (hT : ∀ j, j < 6 → NetT T (P + 2 + 17 * j)) (hp : ∀ I' J' Q', (∀ k, (k ≤ P ∨ P + 104 ≤ k) → I' k = I k) → (∀ k, (k < P ∨ P + 104 ≤ k) → Q' k = Q k) → PsC Q Q' P 6 → post I' J' Q') : wp_X3_init I J Q T (P + 1) P post := by
  have t : ∀ j, j < 6 → T (P + 2 + 17 * j) = (1, 0) := fun j hj => by
    have := hT j hj 0 (by decide)
    exact this
  unfold wp_X3_init
  simp only [Nat.add_assoc, Nat.reduceAdd, tc0, tc1, tc2, tc3, tc4, tc5]
  have p0 : PsC Q (stq (upk Q (P + 1) zQ) P 0 (P + 1)) P 0 := ⟨fun k hk => by rw [stq_ne _ _ _ _ (by omega), upk_n (by omega)], by simp [stq, upk, va_up], fun i hi => absurd hi (Nat.not_lt_zero i)⟩
  refine ⟨hT0, p0.2.1, t 0 (by decide), sp_net_init (B := P + 2) (hT 0 (by decide)) (fun I1 J1 Q1 f1 n1 m1 => ?_)⟩
  have p1 := p0.step (c := 0) (by decide) rfl (fun k hk => (f1 k hk).2) m1
  have i1 : ∀ k, (k ≤ P ∨ P + 104 ≤ k) → I1 k = I k := fun k hk => by rw [(f1 k (by omega)).1, upk_n (by omega), upk_n (by omega)]
  refine ⟨p1.2.1, t 1 (by decide), sp_net_init (B := P + 19) (hT 1 (by decide)) (fun I2 J2 Q2 f2 n2 m2 => ?_)⟩
  have p2 := p1.step (c := 1) (by decide) rfl (fun k hk => (f2 k hk).2) m2
  have i2 : ∀ k, (k ≤ P ∨ P + 104 ≤ k) → I2 k = I k := fun k hk => by rw [(f2 k (by omega)).1, upk_n (by omega)]; exact i1 k hk
  refine ⟨p2.2.1, t 2 (by decide), sp_net_init (B := P + 36) (hT 2 (by decide)) (fun I3 J3 Q3 f3 n3 m3 => ?_)⟩
  have p3 := p2.step (c := 2) (by decide) rfl (fun k hk => (f3 k hk).2) m3
  have i3 : ∀ k, (k ≤ P ∨ P + 104 ≤ k) → I3 k = I k := fun k hk => by rw [(f3 k (by omega)).1, upk_n (by omega)]; exact i2 k hk
  refine ⟨p3.2.1, t 3 (by decide), sp_net_init (B := P + 53) (hT 3 (by decide)) (fun I4 J4 Q4 f4 n4 m4 => ?_)⟩
  have p4 := p3.step (c := 3) (by decide) rfl (fun k hk => (f4 k hk).2) m4
  have i4 : ∀ k, (k ≤ P ∨ P + 104 ≤ k) → I4 k = I k := fun k hk => by rw [(f4 k (by omega)).1, upk_n (by omega)]; exact i3 k hk
  refine ⟨p4.2.1, t 4 (by decide), sp_net_init (B := P + 70) (hT 4 (by decide)) (fun I5 J5 Q5 f5 n5 m5 => ?_)⟩
  have p5 := p4.step (c := 4) (by decide) rfl (fun k hk => (f5 k hk).2) m5
  have i5 : ∀ k, (k ≤ P ∨ P + 104 ≤ k) → I5 k = I k := fun k hk => by rw [(f5 k (by omega)).1, upk_n (by omega)]; exact i4 k hk
  refine ⟨p5.2.1, t 5 (by decide), sp_net_init (B := P + 87) (hT 5 (by decide)) (fun I6 J6 Q6 f6 n6 m6 => ?_)⟩
  have p6 := p5.step (c := 5) (by decide) rfl (fun k hk => (f6 k hk).2) m6
  have i6 : ∀ k, (k ≤ P ∨ P + 104 ≤ k) → I6 k = I k := fun k hk => by rw [(f6 k (by omega)).1, upk_n (by omega)]; exact i5 k hk
  exact hp _ _ _ i6 p6.1 p6
theorem tt_net : (∀ i, i < 17 → TT (1 + i) = NTl.getD i (99, 0)) ∧ (∀ i, i < 17 → TT (122 + i) = NTl.getD i (99, 0)) ∧ (∀ i, i < 17 → TT (243 + i) = NTl.getD i (99, 0)) ∧ (∀ j, j < 6 → ∀ i, i < 17 → TT (18 + 2 + 17 * j + i) = NTl.getD i (99, 0)) ∧ ∀ j, j < 6 → ∀ i, i < 17 → TT (139 + 2 + 17 * j + i) = NTl.getD i (99, 0) := by decide +kernel
/-- where all leads, but for the reference -/
def ClQ (Q : KQ) : Prop := (rq Q 0 0 = 1 ∧ rq Q 0 1 = 18 ∧ rq Q 0 2 = 122 ∧ rq Q 0 3 = 139 ∧ rq Q 0 4 = 243 ∧ rq Q 0 5 = 260 ∧ rq Q 0 6 = 265 ∧ rq Q 0 7 = 269 ∧ rq Q 0 8 = 272 ∧ rq Q 0 9 = 274 ∧ rq Q 0 10 = 278) ∧ (NetQ Q 1 ∧ NetQ Q 122 ∧ NetQ Q 243 ∧ RndQ Q 260) ∧ (rq Q 265 0 = 266 ∧ rq Q 265 1 = 267 ∧ rq Q 265 2 = 268 ∧ rq Q 269 0 = 270 ∧ rq Q 269 1 = 271 ∧ rq Q 272 0 = 273 ∧ rq Q 274 0 = 275 ∧ rq Q 274 1 = 276 ∧ rq Q 276 0 = 277) ∧ ∀ s, s < 4 → rq Q 278 s = 279 + 2 * s ∧ rq Q (279 + 2 * s) 0 = 280 + 2 * s
set_option maxHeartbeats 8000000 in
theorem sp_cls_init {post : KI → KJ → KQ → Prop} (hp : ∀ I J Q, I 0 11 = 0 → NetIs I 1 SI → I 18 1 = 0 → I 274 2 = 0 → (∀ s, s < 4 → I (279 + 2 * s) 1 = -1) → ClQ Q → PastQ Q 18 (fun i => 18 + 2 + 17 * i) → PastQ Q 139 (fun i => 139 + 2 + 17 * i) → post I J Q) : wp_X10_init (upk (fun _ => zI) 0 zI) (upk (fun _ => zJ) 0 zJ) (upk (fun _ => zQ) 0 zQ) TT 1 0 post := by
  obtain ⟨u1, u2, u3, u4, u5⟩ := tt_net
  unfold wp_X10_init
  simp only [Nat.reduceAdd]
  refine ⟨by decide +kernel, sp_net_init (B := 1) u1 (fun I2 J2 Q2 f2 n2 m2 => ⟨by decide +kernel, sp_past_init (P := 18) (by decide +kernel) u4 (fun I4 J4 Q4 g4 k4 p4 => ⟨by decide +kernel, sp_net_init (B := 122) u2 (fun I6 J6 Q6 f6 n6 m6 => ⟨by decide +kernel, sp_past_init (P := 139) (by decide +kernel) u5 (fun I8 J8 Q8 g8 k8 p8 => ⟨by decide +kernel, sp_net_init (B := 243) u3 (fun I10 J10 Q10 f10 n10 m10 => ?_)⟩)⟩)⟩)⟩)⟩
  have a4 : ∀ k, k < 18 → I4 k = I2 k := fun k hk => by rw [g4 k (by omega), upk_n (by omega)]
  have a6 : ∀ k, k < 122 → I6 k = I4 k := fun k hk => by rw [(f6 k (by omega)).1, upk_n (by omega)]
  have a8 : ∀ k, k < 139 → I8 k = I6 k := fun k hk => by rw [g8 k (by omega), upk_n (by omega)]
  have a10 : ∀ k, k < 243 → I10 k = I8 k := fun k hk => by rw [(f10 k (by omega)).1, upk_n (by omega)]
  have b4 : ∀ k, 1 ≤ k → k < 18 → Q4 k = Q2 k := fun k h1 hk => by rw [k4 k (by omega), upk_n (by omega), stq_ne _ _ _ _ (by omega)]
  have b6 : ∀ k, 1 ≤ k → k < 122 → Q6 k = Q4 k := fun k h1 hk => by rw [(f6 k (by omega)).2, upk_n (by omega), stq_ne _ _ _ _ (by omega)]
  have b8 : ∀ k, 1 ≤ k → k < 139 → Q8 k = Q6 k := fun k h1 hk => by rw [k8 k (by omega), upk_n (by omega), stq_ne _ _ _ _ (by omega)]
  have b10 : ∀ k, 1 ≤ k → k < 243 → Q10 k = Q8 k := fun k h1 hk => by rw [(f10 k (by omega)).2, upk_n (by omega), stq_ne _ _ _ _ (by omega)]
  have z4 : Q4 0 = va_up (Q2 0) 0 (some 1) := by rw [k4 0 (by omega)]; simp [stq, upk]
  have z6 : Q6 0 = va_up (Q4 0) 1 (some 18) := by rw [(f6 0 (by omega)).2]; simp [stq, upk]
  have z8 : Q8 0 = va_up (Q6 0) 2 (some 122) := by rw [k8 0 (by omega)]; simp [stq, upk]
  have z10 : Q10 0 = va_up (Q8 0) 3 (some 139) := by rw [(f10 0 (by omega)).2]; simp [stq, upk]
  have c0 : I10 0 11 = 0 := by rw [a10 0 (by omega), a8 0 (by omega), a6 0 (by omega), a4 0 (by omega), (f2 0 (by omega)).1]; rfl
  have c1 : NetIs I10 1 SI := n2.fr (fun k _ _ => by rw [a10 k (by omega), a8 k (by omega), a6 k (by omega), a4 k (by omega)])
  have c18 : I10 18 1 = 0 := by rw [a10 18 (by omega), a8 18 (by omega), a6 18 (by omega), g4 18 (by omega), upk_s]; rfl
  have d1 : NetQ Q10 1 := m2.fr (fun k _ _ => by rw [b10 k (by omega) (by omega), b8 k (by omega) (by omega), b6 k (by omega) (by omega), b4 k (by omega) (by omega)])
  have d122 : NetQ Q10 122 := m6.fr (fun k _ _ => by rw [b10 k (by omega) (by omega), b8 k (by omega) (by omega)])
  have d18 : PastQ Q10 18 (fun i => 18 + 2 + 17 * i) := p4.past.fr (fun k _ _ => by rw [b10 k (by omega) (by omega), b8 k (by omega) (by omega), b6 k (by omega) (by omega)])
  have d139 : PastQ Q10 139 (fun i => 139 + 2 + 17 * i) := p8.past.fr (fun k _ _ => by rw [b10 k (by omega) (by omega)])
  unfold wp_X5_init wp_X0_init wp_X9_init wp_X2_init wp_X8_init wp_X6_init wp_X7_init wp_X4_init
  simp only [Nat.reduceAdd, tc0, tc1, tc2, tc3]
  refine ⟨by decide +kernel, by decide +kernel, by decide +kernel, by decide +kernel, by decide +kernel, by decide +kernel, by decide +kernel, by decide +kernel, by decide +kernel, by decide +kernel, by decide +kernel, by decide +kernel, by decide +kernel, by decide +kernel, by decide +kernel, by decide +kernel, by decide +kernel, by decide +kernel, by decide +kernel, by simp [stq, upk, va_up], by decide +kernel, by decide +kernel, by simp [stq, upk, va_up], by decide +kernel, by decide +kernel, by simp [stq, upk, va_up], by decide +kernel, by decide +kernel, by simp [stq, upk, va_up], by decide +kernel, by decide +kernel, ?_⟩
  refine hp _ _ _ ?_ ?_ ?_ ?_ (fun s hs => ?_) ⟨⟨?_, ?_, ?_, ?_, ?_, ?_, ?_, ?_, ?_, ?_, ?_⟩, ⟨?_, ?_, ?_, ?_, ?_, ?_, ?_⟩, ⟨?_, ?_, ?_, ?_, ?_, ?_, ?_, ?_, ?_⟩, fun s hs => ⟨?_, ?_⟩⟩ ?_ ?_
  · simp [sti, upk, upd, c0]
  · exact c1.fr (fun k k1 k2 => by
    have e : ∀ q, 260 ≤ q → k ≠ q := fun q hq => by omega
    simp [sti, upk, e])
  · simp [sti, upk, upd, c18]
  · simp [sti, upk, upd, zI]
  · rcases (show s = 0 ∨ s = 1 ∨ s = 2 ∨ s = 3 by omega) with rfl | rfl | rfl | rfl <;> simp [sti, upk, upd]
  · simp [rq, stq, upk, va_up, z10, z8, z6, z4]
  · simp [rq, stq, upk, va_up, z10, z8, z6, z4]
  · simp [rq, stq, upk, va_up, z10, z8, z6, z4]
  · simp [rq, stq, upk, va_up, z10, z8, z6, z4]
  · simp [rq, stq, upk, va_up]
  · simp [rq, stq, upk, va_up]
  · simp [rq, stq, upk, va_up]
  · simp [rq, stq, upk, va_up]
  · simp [rq, stq, upk, va_up]
  · simp [rq, stq, upk, va_up]
  · simp [rq, stq, upk, va_up]
  · exact d1.fr (fun k k1 k2 => by
    have e : ∀ q, 260 ≤ q → k ≠ q := fun q hq => by omega
    have e0 : k ≠ 0 := by omega
    simp [stq, upk, e, e0])
  · exact d122.fr (fun k k1 k2 => by
    have e : ∀ q, 260 ≤ q → k ≠ q := fun q hq => by omega
    have e0 : k ≠ 0 := by omega
    simp [stq, upk, e, e0])
  · exact m10.fr (fun k k1 k2 => by
    have e : ∀ q, 260 ≤ q → k ≠ q := fun q hq => by omega
    have e0 : k ≠ 0 := by omega
    simp [stq, upk, e, e0])
  · simp [rq, stq, upk, va_up]
  · simp [rq, stq, upk, va_up]
  · simp [rq, stq, upk, va_up]
  · simp [rq, stq, upk, va_up]
  · simp [rq, stq, upk, va_up]
  · simp [rq, stq, upk, va_up]
  · simp [rq, stq, upk, va_up]
  · simp [rq, stq, upk, va_up]
  · simp [rq, stq, upk, va_up]
  · simp [rq, stq, upk, va_up]
  · simp [rq, stq, upk, va_up]
  · simp [rq, stq, upk, va_up]
  · simp [rq, stq, upk, va_up]
  · rcases (show s = 0 ∨ s = 1 ∨ s = 2 ∨ s = 3 by omega) with rfl | rfl | rfl | rfl <;> simp [rq, stq, upk, va_up]
  · rcases (show s = 0 ∨ s = 1 ∨ s = 2 ∨ s = 3 by omega) with rfl | rfl | rfl | rfl <;> simp [rq, stq, upk, va_up]
  · exact d18.fr (fun k k1 k2 => by
    have e : ∀ q, 260 ≤ q → k ≠ q := fun q hq => by omega
    have e0 : k ≠ 0 := by omega
    simp [stq, upk, e, e0])
  · exact d139.fr (fun k k1 k2 => by
    have e : ∀ q, 260 ≤ q → k ≠ q := fun q hq => by omega
    have e0 : k ≠ 0 := by omega
    simp [stq, upk, e, e0])
