/-! PURE, 15: class and reference hold the same -/
theorem RowIs.congr {g g' : Nat → Int32} {S : Snap} (h : RowIs g S) (h8 : S.1 6 ≤ 8) (he : ∀ t, t < 69 → g' t = g t) : RowIs g' S := by
  obtain ⟨h1, h2, h3, h4⟩ := h
  exact ⟨fun i hi => by rw [he i (by omega)]; exact h1 i hi, fun i hi => by rw [he (7 + i) (by omega)]; exact h2 i hi, fun v hv => by rw [he (15 + v) (by omega)]; exact h3 v hv, fun v hv w hw => by rw [he (21 + 8 * v + w) (by omega)]; exact h4 v hv w hw⟩
/-- the reference's ring of what can be undone: the oldest first -/
def RingIs (g : Nat → Int32) (m a : Nat) (hs : Nat → Snap) : Prop := ∀ i, i < m → RowIs (fun t => g (69 * ((a + 6 - m + i) % 6) + t)) (hs i)
def HsB (b m : Nat) (hs : Nat → Snap) : Prop := ∀ i, i < m → Gs (hs i) ∧ (hs i).1 4 ≤ b
theorem HsB.keep {b m : Nat} {hs : Nat → Snap} {S : Snap} (h : HsB b m hs) (hG : Gs S) (hb : S.1 4 ≤ b) (hm : m ≤ 6) : HsB b (keepN m) (keepH m hs S) := by
  intro i hi
  unfold keepN at hi
  unfold keepH
  by_cases h6 : m < 6
  · rw [if_pos h6] at hi ⊢
    by_cases him : i = m
    · subst him; rw [upk_s]; exact ⟨hG, hb⟩
    · rw [upk_n him]; exact h i (by omega)
  · rw [if_neg h6] at hi ⊢
    show Gs (if i < 5 then hs (i + 1) else S) ∧ (if i < 5 then hs (i + 1) else S).1 4 ≤ b
    by_cases h5 : i < 5
    · rw [if_pos h5]; exact h (i + 1) (by omega)
    · rw [if_neg h5]; exact ⟨hG, hb⟩
theorem HsB.mono {b b' m : Nat} {hs : Nat → Snap} (h : HsB b m hs) (hb : b ≤ b') : HsB b' m hs := fun i hi => ⟨(h i hi).1, Nat.le_trans (h i hi).2 hb⟩
theorem keepN_le (m : Nat) : keepN m ≤ 6 := by unfold keepN; split <;> omega
theorem ms_remembers {I : KI} {Q : KQ} {m a b : Nat} {S : Snap} {hs : Nat → Snap} {post : KI → Prop} (hM : MdQ Q) (hN : RowIs (I 288) S) (hG : Gs S) (hb : HsB b m hs) (h1 : I 287 1 = nI m) (h2 : I 287 2 = nI a) (hm : m ≤ 6) (ha : a < 6) (hR : RingIs (I 289) m a hs) (hp : ∀ I', (∀ q, q ≠ 287 → q ≠ 289 → I' q = I q) → (∀ j, j ≠ 1 → j ≠ 2 → I' 287 j = I 287 j) → I' 287 1 = nI (keepN m) → I' 287 2 = nI ((a + 1) % 6) → RingIs (I' 289) (keepN m) ((a + 1) % 6) (keepH m hs S) → post I') : wp_X11_remembers I Q 287 post := by
  have h8 : S.1 6 ≤ 8 := hG.2.2.2.2.2.1.2
  unfold wp_X11_remembers
  rw [hM.now, hM.undos, h2, show (69 : Int32) * nI a = nI (69 * a) from pk_mul 69 a]
  refine ms_copies (i := 0) (j := 69 * a) (n := 69) (by decide) (by omega) (by omega) (by decide) (by decide) ?_
  have e287 : cpi I 288 289 0 (69 * a) 69 287 = I 287 := cpi_ne _ _ _ _ _ _ (by decide)
  have e1 : sti (cpi I 288 289 0 (69 * a) 69) 287 2 (nI ((a + 1) % 6)) 287 1 = nI m := by rw [sti_at, pk_un (by decide), e287, h1]
  rw [e287, h2, nI_1, show nI (a + 1) - nI (a + 1) / (6 : Int32) * (6 : Int32) = nI ((a + 1) % 6) from pk_rem (by omega) (by decide) (by decide), e1]
  have hring : ∀ I' : KI, I' 289 = cpi I 288 289 0 (69 * a) 69 289 → RingIs (I' 289) (keepN m) ((a + 1) % 6) (keepH m hs S) := by
    intro I' he i hi
    rw [he]
    unfold keepN at hi ⊢
    unfold keepH
    by_cases h6 : m < 6
    · rw [if_pos h6] at hi ⊢
      rw [if_pos h6]
      by_cases him : i = m
      · subst him
        rw [upk_s]
        have e : ((a + 1) % 6 + 6 - (i + 1) + i) % 6 = a := by omega
        rw [e]
        exact hN.congr h8 (fun t ht => by rw [cpi_in _ _ _ _ _ _ (by omega) (by omega)]; congr 1; omega)
      · rw [upk_n him]
        have hi2 : i < m := by omega
        have e : ((a + 1) % 6 + 6 - (m + 1) + i) % 6 = (a + 6 - m + i) % 6 := by omega
        have hne : (a + 6 - m + i) % 6 ≠ a := by omega
        rw [e]
        refine (hR i hi2).congr (hb i hi2).1.2.2.2.2.2.1.2 (fun t ht => ?_)
        rw [cpi_out _ _ _ _ _ _ (by omega)]
    · have hm6 : m = 6 := by omega
      subst hm6
      rw [if_neg h6] at hi ⊢
      rw [if_neg h6]
      show RowIs _ (if i < 5 then hs (i + 1) else S)
      by_cases h5 : i < 5
      · rw [if_pos h5]
        have e : ((a + 1) % 6 + 6 - 6 + i) % 6 = (a + 6 - 6 + (i + 1)) % 6 := by omega
        have hne : (a + 6 - 6 + (i + 1)) % 6 ≠ a := by omega
        rw [e]
        refine (hR (i + 1) (by omega)).congr (hb (i + 1) (by omega)).1.2.2.2.2.2.1.2 (fun t ht => ?_)
        rw [cpi_out _ _ _ _ _ _ (by omega)]
      · rw [if_neg h5]
        have e : ((a + 1) % 6 + 6 - 6 + i) % 6 = a := by omega
        rw [e]
        exact hN.congr h8 (fun t ht => by rw [cpi_in _ _ _ _ _ _ (by omega) (by omega)]; congr 1; omega)
  have fin : ∀ x, x = nI (keepN m) → post (sti (sti (cpi I 288 289 0 (69 * a) 69) 287 2 (nI ((a + 1) % 6))) 287 1 x) := by
    intro x hx
    refine hp _ (fun q c d => by rw [sti_ne _ _ _ c, sti_ne _ _ _ c, cpi_ne _ _ _ _ _ _ d]) (fun j c d => by rw [sti_at, pk_un c, sti_at, pk_un d, e287]) (by rw [sti_at, pk_us, hx]) (by rw [sti_at, pk_un (by decide), sti_at, pk_us]) (hring _ (by rw [sti_ne _ _ _ (by decide), sti_ne _ _ _ (by decide)]))
  refine ⟨fun c => ?_, fun c => ?_⟩
  · have : 6 ≤ m := (nI_leI (a := 6) (by decide) (by omega)).mp c
    refine fin _ ?_
    rw [show nI m + (0 : Int32) = nI (m + 0) from nI_add m 0]
    unfold keepN
    rw [if_neg (by omega)]
    congr 1
    omega
  · have : ¬ 6 ≤ m := fun q => c (nI_le (a := 6) q (by omega))
    refine fin _ ?_
    rw [nI_1]
    unfold keepN
    rw [if_pos (by omega)]
def ClsQ (Q : KQ) : Prop := (rq Q 0 0 = 1 ∧ rq Q 0 1 = 18 ∧ rq Q 0 2 = 122 ∧ rq Q 0 3 = 139 ∧ rq Q 0 4 = 243 ∧ rq Q 0 5 = 260 ∧ rq Q 0 6 = 265 ∧ rq Q 0 7 = 269 ∧ rq Q 0 8 = 272 ∧ rq Q 0 9 = 274 ∧ rq Q 0 10 = 278) ∧ (NetQ Q 1 ∧ NetQ Q 122 ∧ NetQ Q 243 ∧ RndQ Q 260) ∧ (rq Q 265 0 = 266 ∧ rq Q 265 1 = 267 ∧ rq Q 265 2 = 268 ∧ rq Q 269 0 = 270 ∧ rq Q 269 1 = 271 ∧ rq Q 272 0 = 273 ∧ rq Q 274 0 = 275 ∧ rq Q 274 1 = 276 ∧ rq Q 276 0 = 277) ∧ (∀ s, s < 4 → rq Q 278 s = 279 + 2 * s ∧ rq Q (279 + 2 * s) 0 = 280 + 2 * s) ∧ MdQ Q
theorem rq_fr {Q Q' : KQ} {k : Nat} (h : Q' k = Q k) (j : Nat) : rq Q' k j = rq Q k j := by unfold rq; rw [h]
theorem ClsQ.fr {Q Q' : KQ} (h : ClsQ Q) (hf : ∀ k, k ≠ 19 → Q' k = Q k) : ClsQ Q' := by
  obtain ⟨⟨a0, a1, a2, a3, a4, a5, a6, a7, a8, a9, a10⟩, ⟨b1, b2, b3, b4⟩, ⟨c1, c2, c3, c4, c5, c6, c7, c8, c9⟩, d, e⟩ := h
  have r : ∀ k j, k ≠ 19 → rq Q' k j = rq Q k j := fun k j hk => rq_fr (hf k hk) j
  refine ⟨⟨?_, ?_, ?_, ?_, ?_, ?_, ?_, ?_, ?_, ?_, ?_⟩, ⟨b1.fr (fun k _ _ => hf k (by omega)), b2.fr (fun k _ _ => hf k (by omega)), b3.fr (fun k _ _ => hf k (by omega)), ?_⟩, ⟨?_, ?_, ?_, ?_, ?_, ?_, ?_, ?_, ?_⟩, fun s hs => ?_, fun j hj => ?_⟩
  all_goals first
    | (rw [r _ _ (by decide)]; assumption)
    | skip
  · obtain ⟨q1, q2, q3, q4⟩ := b4
    exact ⟨by rw [r _ _ (by decide)]; exact q1, by rw [r _ _ (by decide)]; exact q2, by rw [r _ _ (by decide)]; exact q3, by rw [r _ _ (by decide)]; exact q4⟩
  · rw [r _ _ (by omega), r _ _ (by omega)]
    exact d s hs
  · rw [r _ _ (by decide)]
    exact e j hj
def RelC (I : KI) (π : Nat → Nat) (S : Snap) (hs : Nat → Snap) (m b : Nat) : Prop := NetIs I 1 S ∧ PastI I 18 π m hs ∧ RowIs (I 288) S ∧ I 287 1 = nI m ∧ (∃ a, a < 6 ∧ I 287 2 = nI a ∧ RingIs (I 289) m a hs) ∧ Gs S ∧ S.1 4 ≤ b ∧ HsB b m hs
def RelI (I : KI) (π : Nat → Nat) (b : Nat) : Prop := (I 0 11 = 0 ∧ I 287 4 = 0) ∨ (I 0 11 = 1 ∧ I 287 4 = 1 ∧ ∃ S hs m, NetIs I 122 S ∧ PastI I 139 π m hs ∧ RowIs (I 290) S ∧ I 287 5 = nI m ∧ (∃ a, a < 6 ∧ I 287 6 = nI a ∧ RingIs (fun t => I 290 (69 + t)) m a hs) ∧ Gs S ∧ S.1 4 ≤ b ∧ HsB b m hs)
def RelT (I : KI) : Prop := ∃ tm, tm ≤ 90 ∧ I 274 2 = nI tm ∧ I 287 20 = nI tm ∧ ∀ j, j < tm → ∃ c, 32 ≤ c ∧ c ≤ 126 ∧ I 275 j = nI c ∧ I 299 j = nI c
def RelS (I : KI) (J : KJ) : Prop := ∀ s, s < 4 → (I (279 + 2 * s) 1 = -1 ∧ I 302 s = -1) ∨ ∃ l n, l < 4 ∧ n ≤ 24 ∧ I (279 + 2 * s) 1 = nI l ∧ I (279 + 2 * s) 2 = nI n ∧ I 301 s = nI l ∧ I 302 s = nI n ∧ ∀ j, j < 24 → J (280 + 2 * s) j = J 303 (24 * s + j)
/-- all but what the calls change most -/
def RelR (I : KI) (J : KJ) (Q : KQ) (b : Nat) : Prop := ClsQ Q ∧ (∃ π, PastQ Q 139 π ∧ RelI I π b) ∧ RelT I ∧ RelS I J
def Rel (I : KI) (J : KJ) (Q : KQ) (b : Nat) : Prop := RelR I J Q b ∧ ∃ π, PastQ Q 18 π ∧ ∃ S hs m, RelC I π S hs m b
theorem PastQ.fr {Q Q' : KQ} {P : Nat} {π : Nat → Nat} (h : PastQ Q P π) (hf : ∀ k, P ≤ k → k < P + 104 → Q' k = Q k) : PastQ Q' P π := by
  obtain ⟨h1, h2, h3⟩ := id h
  refine ⟨by rw [rq_fr (hf P (by omega) (by omega))]; exact h1, fun i hi => ?_, h3⟩
  obtain ⟨a, ⟨j, hj, e⟩, c⟩ := h2 i hi
  refine ⟨by rw [rq_fr (hf (P + 1) (by omega) (by omega))]; exact a, ⟨j, hj, e⟩, c.fr (fun k q1 q2 => hf k (by omega) (by omega))⟩
theorem PastI.fr {I I' : KI} {P m : Nat} {π : Nat → Nat} {hs : Nat → Snap} {Q : KQ} (h : PastI I P π m hs) (hQ : PastQ Q P π) (hf : ∀ k, P ≤ k → k < P + 104 → I' k = I k) : PastI I' P π m hs := by
  obtain ⟨h1, h2, h3⟩ := h
  refine ⟨by rw [hf P (by omega) (by omega)]; exact h1, h2, fun i hi => ?_⟩
  have hat := hQ.at (i := i) (by omega)
  exact (h3 i hi).fr (fun k q1 q2 => hf k (by omega) (by omega))
/-- the cells that the rest of the relation looks at stay -/
def FrR (I I' : KI) : Prop := (∀ q, (q = 0 ∨ (122 ≤ q ∧ q < 243) ∨ q = 275 ∨ (279 ≤ q ∧ q ≤ 286) ∨ q = 290 ∨ q = 299 ∨ q = 301 ∨ q = 302) → I' q = I q) ∧ I' 274 2 = I 274 2 ∧ ∀ j, (4 ≤ j ∧ j ≤ 6 ∨ j = 20) → I' 287 j = I 287 j
theorem RelI.mono {I : KI} {π : Nat → Nat} {b b' : Nat} (h : RelI I π b) (hb : b ≤ b') : RelI I π b' := by
  rcases h with h | ⟨h1, h2, S, hs, m, q1, q2, q3, q4, q5, q6, q7, q8⟩
  · exact Or.inl h
  · exact Or.inr ⟨h1, h2, S, hs, m, q1, q2, q3, q4, q5, q6, Nat.le_trans q7 hb, q8.mono hb⟩
theorem RelR.fr {I I' : KI} {J : KJ} {Q Q' : KQ} {b b' : Nat} (h : RelR I J Q b) (hb : b ≤ b') (hQ : ∀ k, k ≠ 19 → Q' k = Q k) (hf : FrR I I') : RelR I' J Q' b' := by
  obtain ⟨h1, ⟨π, h2, h3⟩, ⟨tm, t1, t2, t3, t4⟩, h5⟩ := h
  obtain ⟨f1, f2, f3⟩ := hf
  refine ⟨h1.fr hQ, ⟨π, h2.fr (fun k _ _ => hQ k (by omega)), ?_⟩, ⟨tm, t1, by rw [f2]; exact t2, by rw [f3 20 (by omega)]; exact t3, fun j hj => by rw [f1 275 (by omega), f1 299 (by omega)]; exact t4 j hj⟩, fun s hs => ?_⟩
  · refine RelI.mono ?_ hb
    rcases h3 with ⟨q1, q2⟩ | ⟨q1, q2, S, hs, m, r1, r2, r3, r4, r5, r6⟩
    · exact Or.inl ⟨by rw [f1 0 (by omega)]; exact q1, by rw [f3 4 (by omega)]; exact q2⟩
    · refine Or.inr ⟨by rw [f1 0 (by omega)]; exact q1, by rw [f3 4 (by omega)]; exact q2, S, hs, m, r1.fr (fun k _ _ => f1 k (by omega)), r2.fr h2 (fun k _ _ => f1 k (by omega)), by rw [f1 290 (by omega)]; exact r3, by rw [f3 5 (by omega)]; exact r4, ?_, r6⟩
      rw [f1 290 (by omega), f3 6 (by omega)]
      exact r5
  · rw [f1 (279 + 2 * s) (by omega), f1 301 (by omega), f1 302 (by omega)]
    exact h5 s hs
/-- the cells that all of the relation looks at stay -/
def Fr (I I' : KI) : Prop := (∀ q, (q < 243 ∨ q = 275 ∨ (279 ≤ q ∧ q ≤ 286) ∨ q = 288 ∨ q = 289 ∨ q = 290 ∨ q = 299 ∨ q = 301 ∨ q = 302) → I' q = I q) ∧ I' 274 2 = I 274 2 ∧ ∀ j, (j ≤ 6 ∨ j = 20) → I' 287 j = I 287 j
theorem Fr.R {I I' : KI} (h : Fr I I') : FrR I I' := ⟨fun q hq => h.1 q (by omega), h.2.1, fun j hj => h.2.2 j (by omega)⟩
theorem RelC.fr {I I' : KI} {Q : KQ} {π : Nat → Nat} {S : Snap} {hs : Nat → Snap} {m b : Nat} (h : RelC I π S hs m b) (hQ : PastQ Q 18 π) (hf : Fr I I') : RelC I' π S hs m b := by
  obtain ⟨f1, f2, f3⟩ := hf
  obtain ⟨r1, r2, r3, r4, r5, r6⟩ := h
  refine ⟨r1.fr (fun k _ _ => f1 k (by omega)), r2.fr hQ (fun k _ _ => f1 k (by omega)), by rw [f1 288 (by omega)]; exact r3, by rw [f3 1 (by omega)]; exact r4, ?_, r6⟩
  rw [f1 289 (by omega), f3 2 (by omega)]
  exact r5
theorem Rel.fr {I I' : KI} {J : KJ} {Q : KQ} {b : Nat} (h : Rel I J Q b) (hf : Fr I I') : Rel I' J Q b := by
  obtain ⟨h1, π, h2, S, hs, m, h3⟩ := h
  exact ⟨h1.fr (Nat.le_refl b) (fun _ _ => rfl) hf.R, π, h2, S, hs, m, h3.fr h2 hf⟩
theorem Rel.mono {I : KI} {J : KJ} {Q : KQ} {b b' : Nat} (h : Rel I J Q b) (hb : b ≤ b') : Rel I J Q b' := by
  obtain ⟨h1, π, h2, S, hs, m, r1, r2, r3, r4, r5, r6, r7, r8⟩ := h
  exact ⟨h1.fr hb (fun _ _ => rfl) ⟨fun _ _ => rfl, rfl, fun _ _ => rfl⟩, π, h2, S, hs, m, r1, r2, r3, r4, r5, r6, Nat.le_trans r7 hb, r8.mono hb⟩
/-- what the class has kept, the reference remembers too: all is there again for the state to go on -/
theorem RelC.mk2 {I : KI} {π : Nat → Nat} {S : Snap} {hs : Nat → Snap} {m b a : Nat} (r1 : NetIs I 1 S) (r2 : PastI I 18 π m hs) (r3 : RowIs (I 288) S) (r4 : I 287 1 = nI m) (ha : a < 6) (r5 : I 287 2 = nI a) (r6 : RingIs (I 289) m a hs) (r7 : Gs S) (r8 : S.1 4 ≤ b) (r9 : HsB b m hs) : RelC I π S hs m b := ⟨r1, r2, r3, r4, ⟨a, ha, r5, r6⟩, r7, r8, r9⟩
