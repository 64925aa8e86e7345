/-! PURE, 42: a new object of the class -/
def sc0 : Nat → Nat
  | 0 => 4 | 1 => 4 | 3 => 1 | 5 => 1 | 6 => 1 | _ => 0
def SI : Snap := forgS (sc0, fun _ => ptT 4, fun _ _ => 0, fun _ => 0)
theorem wf_plan {Qf : KQ} {B M : Nat} {T : Nat → Nat × Nat} (h : Qf (B + 1) 0 = some (B + 2)) (t1 : T (B + 1) = (4, 0)) (t2 : T (B + 2) = (20, 48)) (hM : B + 2 < M) : ∃ Z : Nat → Prop, WF Z M T Qf ∧ OKr Z M T (B + 1) (4, 0) := by
  refine ⟨fun k => k = B + 1 ∨ k = B + 2, fun k hk j τ hr => ?_, Or.inl rfl, by omega, t1⟩
  rcases hk with rfl | rfl
  · rw [t1] at hr
    cases j with
    | zero =>
      have : (20, 48) = τ := Option.some.inj hr
      subst this
      exact ⟨B + 2, h, Or.inr rfl, hM, t2⟩
    | succ j => simp [rft] at hr
  · rw [t2] at hr
    simp [rft] at hr
theorem sp_bp {I : KI} {Qf : KQ} {B M : Nat} {T : Nat → Nat × Nat} {post : KI → Prop} (h1 : rq Qf (B + 1) 0 = B + 2) (hC : Qf B 0 = some (B + 1)) (hZ : ∃ Z : Nat → Prop, WF Z M T Qf ∧ OKr Z M T (B + 1) (4, 0)) (h3 : I B 3 = 4) (hp : ∀ I', (∀ k, k ≠ B + 1 → k ≠ B + 2 → I' k = I k) → RowL (I' (B + 2)) 0 (ptT 4) 4 → I' (B + 1) 1 = nI 1 → post I') : ∃ Z : Nat → Prop, WF Z M T Qf ∧ OKr Z M T (B + 1) (4, 0) ∧ wp_X4_begin I Qf (B + 1) (0 : Int32) (fun I24 => (Qf B 0 = some (B + 1) ∧ (∃ Z : Nat → Prop, WF Z M T Qf ∧ OKr Z M T (B + 1) (4, 0) ∧ wp_X4_path I24 Qf (B + 1) (0 : Int32) (I24 B 3) (fun I25 => post I25)))) := by
  obtain ⟨Z, z1, z2⟩ := hZ
  refine ⟨Z, z1, z2, sp_begin (i := 0) (by decide) (by rw [h1]; omega) (fun g k1 k2 => ⟨hC, Z, z1, z2, ?_⟩)⟩
  rw [h1]
  have e3 : sti (upk I (B + 2) g) (B + 1) 1 (nI (0 + 1)) B 3 = nI 4 := by rw [sti_ne _ _ _ (by omega), upk_n (by omega)]; exact h3
  rw [e3]
  refine sp_path (i := 0) (n := 4) (by decide) (by decide) (by decide) (by rw [h1, sti_ne _ _ _ (by omega), upk_s]; exact k1 4) (fun g2 m1 m2 => ?_)
  rw [h1]
  refine hp _ (fun k q1 q2 => by rw [upk_n q2, sti_ne _ _ _ q1, upk_n q2]) (by rw [upk_s]; exact m1) (by rw [upk_n (by omega), sti_at, pk_us])
def NTl : List (Nat × Nat) := [(1, 0), (4, 0), (20, 48), (24, 6), (20, 6), (7, 0), (20, 8), (7, 0), (20, 8), (7, 0), (20, 8), (7, 0), (20, 8), (7, 0), (20, 8), (7, 0), (20, 8)]
def NetT (T : Nat → Nat × Nat) (B : Nat) : Prop := ∀ i, i < 17 → T (B + i) = NTl.getD i (99, 0)
set_option maxHeartbeats 4000000 in
theorem sp_net_init {I : KI} {J : KJ} {Q : KQ} {T : Nat → Nat × Nat} {B : Nat} {post : KI → KJ → KQ → Prop} (hT : NetT T B) (hp : ∀ I' J' Q', (∀ k, (k < B ∨ B + 17 ≤ k) → I' k = I k ∧ Q' k = Q k) → NetIs I' B SI → NetQ Q' B → post I' J' Q') : wp_X1_init I J Q T (B + 1) B post := by
  have t : ∀ i, i < 17 → T (B + i) = NTl.getD i (99, 0) := hT
  unfold wp_X1_init wp_X4_init wp_X7_init
  simp only [Nat.add_assoc, Nat.reduceAdd, tc0, tc1, tc2, tc3, tc4, tc5]
  refine ⟨t 1 (by decide), t 2 (by decide), t 3 (by decide), t 4 (by decide), by simp [stq, upk, va_up], t 5 (by decide), t 6 (by decide), by simp [stq, upk, va_up], t 7 (by decide), t 8 (by decide), by simp [stq, upk, va_up], t 9 (by decide), t 10 (by decide), by simp [stq, upk, va_up], t 11 (by decide), t 12 (by decide), by simp [stq, upk, va_up], t 13 (by decide), t 14 (by decide), by simp [stq, upk, va_up], t 15 (by decide), t 16 (by decide), by simp [stq, upk, va_up], ?_⟩
  refine sp_bp (by simp [rq, stq, upk, va_up]) (by simp [stq, upk, va_up]) (wf_plan (by simp [stq, upk, va_up]) (t 1 (by decide)) (t 2 (by decide)) (by omega)) (by simp [sti, upk, upd]) (fun I' w1 w2 w3 => hp _ _ _ (fun k hk => ⟨?_, ?_⟩) ⟨fun i hi => ?_, ?_, fun i hi => ?_, fun v hv x hx => ?_, fun v hv => ?_⟩ ⟨by simp [rq, stq, upk, va_up], by simp [rq, stq, upk, va_up], by simp [rq, stq, upk, va_up], by simp [rq, stq, upk, va_up], fun v hv => ?_, fun v hv => ?_⟩)
  · rw [w1 k (by omega) (by omega)]
    have e1 : k ≠ B + 1 := by omega
    have e2 : k ≠ B + 2 := by omega
    have e3 : k ≠ B + 3 := by omega
    have e4 : k ≠ B + 4 := by omega
    have e5 : k ≠ B + 5 := by omega
    have e6 : k ≠ B + 6 := by omega
    have e7 : k ≠ B + 7 := by omega
    have e8 : k ≠ B + 8 := by omega
    have e9 : k ≠ B + 9 := by omega
    have e10 : k ≠ B + 10 := by omega
    have e11 : k ≠ B + 11 := by omega
    have e12 : k ≠ B + 12 := by omega
    have e13 : k ≠ B + 13 := by omega
    have e14 : k ≠ B + 14 := by omega
    have e15 : k ≠ B + 15 := by omega
    have e16 : k ≠ B + 16 := by omega
    have e0 : k ≠ B := by omega
    simp [sti, upk, e0, e1, e2, e3, e4, e5, e6, e7, e8, e9, e10, e11, e12, e13, e14, e15, e16]
  · have e1 : k ≠ B + 1 := by omega
    have e2 : k ≠ B + 2 := by omega
    have e3 : k ≠ B + 3 := by omega
    have e4 : k ≠ B + 4 := by omega
    have e5 : k ≠ B + 5 := by omega
    have e6 : k ≠ B + 6 := by omega
    have e7 : k ≠ B + 7 := by omega
    have e8 : k ≠ B + 8 := by omega
    have e9 : k ≠ B + 9 := by omega
    have e10 : k ≠ B + 10 := by omega
    have e11 : k ≠ B + 11 := by omega
    have e12 : k ≠ B + 12 := by omega
    have e13 : k ≠ B + 13 := by omega
    have e14 : k ≠ B + 14 := by omega
    have e15 : k ≠ B + 15 := by omega
    have e16 : k ≠ B + 16 := by omega
    have e0 : k ≠ B := by omega
    simp [stq, upk, e0, e1, e2, e3, e4, e5, e6, e7, e8, e9, e10, e11, e12, e13, e14, e15, e16]
  · rw [w1 B (by omega) (by omega)]
    rcases (show i = 0 ∨ i = 1 ∨ i = 2 ∨ i = 3 ∨ i = 4 ∨ i = 5 by omega) with rfl | rfl | rfl | rfl | rfl | rfl
    · refine Eq.trans ?_ (show (4 : Int32) = nI (SI.1 0) from rfl); simp [sti, upk, upd]
    · refine Eq.trans ?_ (show (4 : Int32) = nI (SI.1 1) from rfl); simp [sti, upk, upd]
    · refine Eq.trans ?_ (show (0 : Int32) = nI (SI.1 2) from rfl); simp [sti, upk, upd]
    · refine Eq.trans ?_ (show (1 : Int32) = nI (SI.1 3) from rfl); simp [sti, upk, upd]
    · refine Eq.trans ?_ (show (0 : Int32) = nI (SI.1 4) from rfl); simp [sti, upk, upd]
    · refine Eq.trans ?_ (show (1 : Int32) = nI (SI.1 5) from rfl); simp [sti, upk, upd]
  · exact w3
  · have hi1 : i < 1 := hi
    have : i = 0 := by omega
    subst this
    exact w2
  · rw [w1 _ (by omega) (by omega)]
    refine Eq.trans ?_ (show (0 : Int32) = nI (SI.2.2.1 v x) from rfl)
    rcases (show v = 0 ∨ v = 1 ∨ v = 2 ∨ v = 3 ∨ v = 4 ∨ v = 5 by omega) with rfl | rfl | rfl | rfl | rfl | rfl <;> simp [sti, upk, upd, zI, Nat.add_assoc]
  · rw [w1 _ (by omega) (by omega)]
    refine Eq.trans ?_ (show (0 : Int32) = nI (SI.2.2.2 v) from rfl)
    simp [sti, upk, upd, zI]
  · rcases (show v = 0 ∨ v = 1 ∨ v = 2 ∨ v = 3 ∨ v = 4 ∨ v = 5 by omega) with rfl | rfl | rfl | rfl | rfl | rfl <;> simp [rq, stq, upk, va_up, Nat.add_assoc]
  · rcases (show v = 0 ∨ v = 1 ∨ v = 2 ∨ v = 3 ∨ v = 4 ∨ v = 5 by omega) with rfl | rfl | rfl | rfl | rfl | rfl <;> simp [rq, stq, upk, va_up, Nat.add_assoc]
