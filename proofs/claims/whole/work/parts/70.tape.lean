/-! PURE, 33: type; texts -/
theorem op_type {I : KI} {J : KJ} {Q : KQ} {b : Nat} {x1 : Int32} {post : Int32 → KI → Prop} (h : Rel I J Q b) (hp : ∀ r I4, (∀ p2 : Int32 → KI → Prop, (∀ I5, Rel I5 J Q b → p2 r I5) → wp_X11_type I4 Q 287 x1 p2) → post r I4) : wp_X10_type I Q 0 x1 post := by
  obtain ⟨⟨hQ, ⟨π2, hP2, hI2⟩, ⟨tm, t1, t2, t3, t4⟩, hSh⟩, π, hP, S, hs, m, hC⟩ := id h
  obtain ⟨⟨a0, a1, a2, a3, a4, a5, a6, a7, a8, a9, a10⟩, -, ⟨c1, c2, c3, c4, c5, c6, c7, c8, c9⟩, -, hM⟩ := id hQ
  unfold wp_X10_type
  rw [a9]
  rcases inCase x1 32 126 with ⟨c, hc0, hc, rfl⟩ | hno
  · have hch : ((nI c).toUInt32 % 65536).toInt32 = nI c := by
      rw [pk_char, pk_tn (by omega), Nat.mod_eq_of_lt (by omega)]
    have hnar : vp_nar .char (nI c) = nI c := by
      have := pk_vc (nI c)
      rw [hch] at this
      exact this
    refine br_f (nI_nlt (b := 32) hc0 (by omega)) (br_t (nI_le (b := 126) hc (by decide)) ?_)
    unfold wp_X8_append
    rw [t2, hch, c7, hnar, nI_clamp (n := tm) (by omega)]
    refine br_f (nI_pos (by omega)) ⟨fun z => ?_, fun z => ?_⟩
    · have htm : tm < 90 := (nI_ltI (b := 90) (by omega) (by decide)).mp z
      have e1 : sti I 275 tm (nI c) 274 2 = nI tm := by rw [sti_ne _ _ _ (by decide)]; exact t2
      have e2 : sti (sti I 275 tm (nI c)) 274 2 (nI tm + 1) 274 2 = nI (tm + 1) := by rw [sti_at, pk_us, nI_1]
      rw [e1]
      refine ⟨vp_in_nI htm (by decide), fun y => absurd y (by decide), fun _ => ?_⟩
      rw [e2]
      refine hp _ _ (fun p2 h2 => ?_)
      have f1 : ∀ q, q ≠ 274 → q ≠ 275 → sti (sti I 275 tm (nI c)) 274 2 (nI tm + 1) q = I q := fun q q1 q2 => by rw [sti_ne _ _ _ q1, sti_ne _ _ _ q2]
      unfold wp_X11_type
      rw [hM.tape, f1 287 (by decide) (by decide), t3, nI_clamp (n := tm) (by omega)]
      refine ms_in1 (lo := 32) (hi := 126) hc0 hc (by decide) ⟨fun _ => ⟨fun _ => ⟨vp_in_nI htm (by decide), ?_⟩, fun y => ?_⟩, fun y => absurd y (by decide)⟩
      · have g1 : sti (sti (sti I 275 tm (nI c)) 274 2 (nI tm + 1)) 299 tm (nI c) 287 20 = nI tm := by rw [sti_ne _ _ _ (by decide), f1 287 (by decide) (by decide)]; exact t3
        rw [g1, sti_at, pk_us, nI_1]
        refine h2 _ ?_
        have f2 : ∀ q, q ≠ 274 → q ≠ 275 → q ≠ 287 → q ≠ 299 → sti (sti (sti (sti I 275 tm (nI c)) 274 2 (nI (tm + 1))) 299 tm (nI c)) 287 20 (nI (tm + 1)) q = I q := fun q q1 q2 q3 q4 => by rw [sti_ne _ _ _ q3, sti_ne _ _ _ q4, sti_ne _ _ _ q1, sti_ne _ _ _ q2]
        have f3 : ∀ j, j ≠ 20 → sti (sti (sti (sti I 275 tm (nI c)) 274 2 (nI (tm + 1))) 299 tm (nI c)) 287 20 (nI (tm + 1)) 287 j = I 287 j := fun j hj => by rw [sti_at, pk_un hj, sti_ne _ _ _ (by decide), sti_ne _ _ _ (by decide), sti_ne _ _ _ (by decide)]
        refine ⟨⟨hQ, ⟨π2, hP2, ?_⟩, ⟨tm + 1, by omega, ?_, ?_, fun j hj => ?_⟩, fun s hs => ?_⟩, π, hP, S, hs, m, ?_⟩
        · rcases hI2 with ⟨q1, q2⟩ | ⟨q1, q2, S, hs, m, r1, r2, r3, r4, r5, r6⟩
          · exact Or.inl ⟨by rw [f2 0 (by omega) (by omega) (by omega) (by omega)]; exact q1, by rw [f3 4 (by omega)]; exact q2⟩
          · refine Or.inr ⟨by rw [f2 0 (by omega) (by omega) (by omega) (by omega)]; exact q1, by rw [f3 4 (by omega)]; exact q2, S, hs, m, r1.fr (fun k _ _ => f2 k (by omega) (by omega) (by omega) (by omega)), r2.fr hP2 (fun k _ _ => f2 k (by omega) (by omega) (by omega) (by omega)), by rw [f2 290 (by omega) (by omega) (by omega) (by omega)]; exact r3, by rw [f3 5 (by omega)]; exact r4, ?_, r6⟩
            rw [f2 290 (by omega) (by omega) (by omega) (by omega), f3 6 (by omega)]
            exact r5
        · rw [sti_ne _ _ _ (by decide), sti_ne _ _ _ (by decide), sti_at, pk_us]
        · rw [sti_at, pk_us]
        · rw [sti_ne _ _ _ (by decide), sti_ne _ _ _ (by decide), sti_ne _ _ _ (by decide), sti_at, sti_ne (q := 299) _ _ _ (by decide), sti_at, sti_ne _ _ _ (by decide), sti_ne _ _ _ (by decide)]
          by_cases hj2 : j = tm
          · subst hj2
            rw [pk_us, pk_us]
            exact ⟨c, hc0, hc, rfl, rfl⟩
          · rw [pk_un hj2, pk_un hj2]
            exact t4 j (by omega)
        · rw [f2 (279 + 2 * s) (by omega) (by omega) (by omega) (by omega), f2 301 (by omega) (by omega) (by omega) (by omega), f2 302 (by omega) (by omega) (by omega) (by omega)]
          exact hSh s hs
        · obtain ⟨r1, r2, r3, r4, ⟨a, ha, r5, r6⟩, r7, r8, r9⟩ := hC
          exact RelC.mk2 (r1.fr (fun k _ _ => f2 k (by omega) (by omega) (by omega) (by omega))) (r2.fr hP (fun k _ _ => f2 k (by omega) (by omega) (by omega) (by omega))) (by rw [f2 288 (by omega) (by omega) (by omega) (by omega)]; exact r3) (by rw [f3 1 (by omega)]; exact r4) ha (by rw [f3 2 (by omega)]; exact r5) (by rw [f2 289 (by omega) (by omega) (by omega) (by omega)]; exact r6) r7 r8 r9
      · have := (nI_eq (b := 90) (by omega) (by decide)).mp y
        omega
    · have htm : tm = 90 := by
        have : ¬ tm < 90 := fun y => z (nI_lt y (by decide))
        omega
      refine ⟨fun _ => hp _ _ (fun p2 h2 => ?_), fun y => absurd rfl y⟩
      unfold wp_X11_type
      rw [t3, htm]
      exact ms_in1 (lo := 32) (hi := 126) hc0 hc (by decide) ⟨fun _ => ⟨fun y => absurd rfl y, fun _ => h2 I h⟩, fun y => absurd y (by decide)⟩
  · have hbad : post (-1) I := hp _ _ (fun p2 h2 => by
      unfold wp_X11_type
      exact ms_in0 (lo := 32) (hi := 126) hno (by decide) (by decide) ⟨fun z => absurd rfl z, fun _ => h2 I h⟩)
    exact ⟨fun _ => hbad, fun z => ⟨fun z2 => (rng_no (lo := 32) (hi := 126) hno (by decide) (by decide) z z2).elim, fun _ => hbad⟩⟩
/-! what a text tells: t its letters, tm how many; places -/
def skT (t : Nat → Nat) : Nat → Nat → Nat
  | 0, i => i
  | d + 1, i => if t i = 32 then skT t d (i + 1) else i
theorem skT_t {t : Nat → Nat} {d i : Nat} (h : t i = 32) : skT t (d + 1) i = skT t d (i + 1) := by simp [skT, h]
theorem skT_f {t : Nat → Nat} {d i : Nat} (h : ¬ t i = 32) : skT t (d + 1) i = i := by simp [skT, h]
theorem skT_le (t : Nat → Nat) : ∀ d i, i ≤ skT t d i ∧ skT t d i ≤ i + d ∧ (skT t d i < i + d → ¬ t (skT t d i) = 32) := by
  intro d
  induction d with
  | zero => intro i; exact ⟨Nat.le_refl _, Nat.le_refl _, fun h => absurd h (Nat.lt_irrefl _)⟩
  | succ d ih =>
    intro i
    by_cases hc : t i = 32
    · rw [skT_t hc]
      obtain ⟨h1, h2, h3⟩ := ih (i + 1)
      exact ⟨by omega, by omega, fun h => h3 (by omega)⟩
    · rw [skT_f hc]
      exact ⟨Nat.le_refl _, by omega, fun _ => hc⟩
def skB (t : Nat → Nat) (tm i : Nat) : Nat := skT t (tm - i) i
theorem skB_le {t : Nat → Nat} {tm i : Nat} (h : i ≤ tm) : i ≤ skB t tm i ∧ skB t tm i ≤ tm := by
  have := skT_le t (tm - i) i
  unfold skB
  omega
theorem skB_id {t : Nat → Nat} {tm i : Nat} (h : i ≤ tm) : skB t tm (skB t tm i) = skB t tm i := by
  obtain ⟨h1, h2, h3⟩ := skT_le t (tm - i) i
  obtain ⟨q1, q2, q3⟩ := skT_le t (tm - skB t tm i) (skB t tm i)
  have hle := skB_le (t := t) h
  by_cases he : skB t tm i = tm
  · unfold skB at q1 q2 he ⊢
    omega
  · have hne : ¬ t (skB t tm i) = 32 := h3 (by unfold skB at hle he; omega)
    obtain ⟨d, hd⟩ : ∃ d, tm - skB t tm i = d + 1 := ⟨tm - skB t tm i - 1, by omega⟩
    show skT t (tm - skB t tm i) (skB t tm i) = skB t tm i
    rw [hd, skT_f hne]
/-- the letter behind blanks; 0: the end -/
def ahT (t : Nat → Nat) (tm i : Nat) : Nat := if skB t tm i < tm then t (skB t tm i) else 0
theorem ahT_id {t : Nat → Nat} {tm i : Nat} (h : i ≤ tm) : ahT t tm (skB t tm i) = ahT t tm i := by
  unfold ahT
  rw [skB_id h]
theorem ahT_nx {t : Nat → Nat} {tm i : Nat} (h : ahT t tm i ≠ 0) : skB t tm i + 1 ≤ tm := by
  unfold ahT at h
  by_cases hc : skB t tm i < tm
  · omega
  · rw [if_neg hc] at h
    exact absurd rfl h
def chI (c : Nat) : Int32 := if c = 0 then -1 else nI c
def fuT (t : Nat → Nat) (tm n i : Nat) : Option Nat := if 48 ≤ ahT t tm i ∧ ahT t tm i < 48 + n then some (ahT t tm i - 48) else none
theorem fuT_some {t : Nat → Nat} {tm n i v : Nat} (h : fuT t tm n i = some v) : v < n ∧ ahT t tm i = 48 + v ∧ skB t tm i + 1 ≤ tm := by
  unfold fuT at h
  by_cases hc : 48 ≤ ahT t tm i ∧ ahT t tm i < 48 + n
  · rw [if_pos hc] at h
    have := Option.some.inj h
    exact ⟨by omega, by omega, ahT_nx (by omega)⟩
  · rw [if_neg hc] at h
    cases h
theorem fuT_id {t : Nat → Nat} {tm n i : Nat} (h : i ≤ tm) : fuT t tm n (skB t tm i) = fuT t tm n i := by
  unfold fuT
  rw [ahT_id h]
def rwT (t : Nat → Nat) (tm n : Nat) : Nat → Nat → Nat → Nat → Nat → Nat → Bool × Nat × Nat × Nat × Nat
  | 0, i, _, f, l, p => (true, i, p, f, l)
  | d + 1, i, met, f, l, p => match fuT t tm n i with
    | none => (false, skB t tm i, p, f, l)
    | some v => match met.testBit v with
      | true => (false, skB t tm i, p, f, l)
      | false => rwT t tm n d (skB t tm i + 1) (met ||| 2 ^ v) (if met = 0 then v else f) v (if met = 0 then p else p ||| 2 ^ pi2 l v)
def nxB (t : Nat → Nat) (tm i : Nat) : Nat := skB t tm i + 1
def lkT (t : Nat → Nat) (tm n : Nat) : Nat → Nat → Nat → Bool × Nat × Nat
  | 0, i, p => (false, i, p)
  | d + 1, i, p => match fuT t tm n i with
    | none => (false, skB t tm i, p)
    | some a => match decide (ahT t tm (nxB t tm i) = 45) with
      | false => (false, skB t tm (nxB t tm i), p)
      | true => match fuT t tm n (nxB t tm (nxB t tm i)) with
        | none => (false, skB t tm (nxB t tm (nxB t tm i)), p)
        | some b => match decide (a = b) || p.testBit (pi2 a b) with
          | true => (false, skB t tm (nxB t tm (nxB t tm i)), p)
          | false => match decide (ahT t tm (nxB t tm (nxB t tm (nxB t tm i))) = 44) with
            | true => lkT t tm n d (nxB t tm (nxB t tm (nxB t tm (nxB t tm i)))) (p ||| 2 ^ pi2 a b)
            | false => (joinB (p ||| 2 ^ pi2 a b) n, skB t tm (nxB t tm (nxB t tm (nxB t tm i))), p ||| 2 ^ pi2 a b)
/-- the links of a star -/
def saT (v p : Nat) : Nat → Nat
  | 0 => p
  | u + 1 => if u = v then saT v p u else saT v p u ||| 2 ^ pi2 u v
def alT (n : Nat) : Nat → Nat
  | 0 => 0
  | v + 1 => saT v (alT n v) n
theorem alT_all : ∀ n, n < 7 → 2 ≤ n → alT n n = 2 ^ (n * (n - 1) / 2) - 1 := by decide +kernel
/-- where a word ends -/
def weT (t : Nat → Nat) : Nat → Nat → Nat
  | 0, i => i
  | d + 1, i => if 97 ≤ t i ∧ t i ≤ 122 then weT t d (i + 1) else i
theorem weT_t {t : Nat → Nat} {d i : Nat} (h : 97 ≤ t i ∧ t i ≤ 122) : weT t (d + 1) i = weT t d (i + 1) := by simp [weT, h]
theorem weT_f {t : Nat → Nat} {d i : Nat} (h : ¬ (97 ≤ t i ∧ t i ≤ 122)) : weT t (d + 1) i = i := by
  simp only [weT]
  rw [if_neg h]
theorem weT_le (t : Nat → Nat) : ∀ d i, i ≤ weT t d i ∧ weT t d i ≤ i + d ∧ ∀ j, i ≤ j → j < weT t d i → 97 ≤ t j ∧ t j ≤ 122 := by
  intro d
  induction d with
  | zero => intro i; exact ⟨Nat.le_refl _, Nat.le_refl _, fun j h1 h2 => by simp only [weT] at h2; omega⟩
  | succ d ih =>
    intro i
    by_cases hc : 97 ≤ t i ∧ t i ≤ 122
    · rw [weT_t hc]
      obtain ⟨h1, h2, h3⟩ := ih (i + 1)
      refine ⟨by omega, by omega, fun j q1 q2 => ?_⟩
      by_cases hj : j = i
      · subst hj; exact hc
      · exact h3 j (by omega) q2
    · rw [weT_f hc]
      exact ⟨Nat.le_refl _, by omega, fun j q1 q2 => by omega⟩
def weB (t : Nat → Nat) (tm i : Nat) : Nat := weT t (tm - i) i
theorem weB_le {t : Nat → Nat} {tm i : Nat} (h : i ≤ tm) : i ≤ weB t tm i ∧ weB t tm i ≤ tm ∧ ∀ j, i ≤ j → j < weB t tm i → 97 ≤ t j ∧ t j ≤ 122 := by
  obtain ⟨h1, h2, h3⟩ := weT_le t (tm - i) i
  exact ⟨h1, by unfold weB; omega, h3⟩
def nmL (k : Nat) : List Nat := [[112, 97, 116, 104], [114, 105, 110, 103], [115, 116, 97, 114], [108, 105, 110, 107, 115], [97, 108, 108]].getD k []
def nmN (k : Nat) : Nat := (nmL k).length
def nmB (t : Nat → Nat) (s e k : Nat) : Bool := decide (e - s = nmN k) && alB (fun j => decide (t (s + j) = (nmL k).getD j 0)) (nmN k)
/-- a set of links, as a text tells it: whether it does, where that ends, the links -/
def ntT (t : Nat → Nat) (tm n i : Nat) : Bool × Nat × Nat :=
  if nmB t (skB t tm i) (weB t tm (skB t tm i)) 0 = true then
    ((rwT t tm n n (weB t tm (skB t tm i)) 0 0 0 0).1, (rwT t tm n n (weB t tm (skB t tm i)) 0 0 0 0).2.1, (rwT t tm n n (weB t tm (skB t tm i)) 0 0 0 0).2.2.1)
  else if nmB t (skB t tm i) (weB t tm (skB t tm i)) 1 = true then
    ((rwT t tm n n (weB t tm (skB t tm i)) 0 0 0 0).1, (rwT t tm n n (weB t tm (skB t tm i)) 0 0 0 0).2.1, (rwT t tm n n (weB t tm (skB t tm i)) 0 0 0 0).2.2.1 ||| 2 ^ pi2 (rwT t tm n n (weB t tm (skB t tm i)) 0 0 0 0).2.2.2.2 (rwT t tm n n (weB t tm (skB t tm i)) 0 0 0 0).2.2.2.1)
  else if nmB t (skB t tm i) (weB t tm (skB t tm i)) 2 = true then
    (match fuT t tm n (weB t tm (skB t tm i)) with
      | none => (false, skB t tm (weB t tm (skB t tm i)), 0)
      | some v => (true, nxB t tm (weB t tm (skB t tm i)), saT v 0 n))
  else if nmB t (skB t tm i) (weB t tm (skB t tm i)) 3 = true then lkT t tm n (tm + 1 - weB t tm (skB t tm i)) (weB t tm (skB t tm i)) 0
  else if nmB t (skB t tm i) (weB t tm (skB t tm i)) 4 = true then (true, weB t tm (skB t tm i), alT n n)
  else (false, skB t tm i, 0)
/-- a whole text: whether it tells a plan, where its reading ends, how many sets of links, they themselves -/
def rdT (t : Nat → Nat) (tm n : Nat) : Nat → Nat → Nat → (Nat → Nat) → Bool × Nat × Nat × (Nat → Nat)
  | 0, net, i, L => (false, skB t tm i, net, L)
  | d + 1, net, i, L => match (ntT t tm n i).1 with
    | false => (false, (ntT t tm n i).2.1, net, L)
    | true => match decide (ahT t tm (ntT t tm n i).2.1 = 0) with
      | true => (true, skB t tm (ntT t tm n i).2.1, net + 1, upk L net (ntT t tm n i).2.2)
      | false => match decide (ahT t tm (ntT t tm n i).2.1 = 59) with
        | true => rdT t tm n d (net + 1) (nxB t tm (ntT t tm n i).2.1) (upk L net (ntT t tm n i).2.2)
        | false => (false, skB t tm (ntT t tm n i).2.1, net, L)
