/-! PURE, 19: tell, drift, image, restore -/
def z0 : Nat → Nat := fun _ => 0
theorem z0_w0 : wrd (kn z0) (32 * 0) 32 = 1 := by decide +kernel
theorem z0_w : ∀ w, w < 8 → w ≠ 0 → wrd (kn z0) (32 * w) 32 = 0 := by decide +kernel
theorem z0_ok (k : Nat) : Gb z0 k ∧ cntS z0 = 2 ^ rk z0 := ⟨⟨fun _ _ h => absurd rfl h, fun _ _ _ _ _ h => absurd rfl h⟩, by decide +kernel⟩
theorem Gs.forg {S : Snap} (h : Gs S) : Gs (forgS S) := by
  obtain ⟨g1, g2, g3, g4, g5, g6, g7, g8, g9⟩ := h
  exact ⟨g1, g2, g3, g4, g5, g6, g7, fun _ _ => z0_ok _, fun _ _ => Nat.two_pow_pos _⟩
theorem ptT_lt : ∀ n, n ≤ 6 → ptT n < 2 ^ (n * (n - 1) / 2) := by decide +kernel
def tlo (w : Nat) : Nat := if w = 0 then 2 else if w = 2 then 0 else 1
def thi (w : Nat) : Nat := if w = 0 then 6 else if w = 1 then 8 else if w = 2 then 3 else 9
theorem Gs.bec {S : Snap} {w v : Nat} (h : Gs S) (hw : w < 4) (h1 : tlo w ≤ v) (h2 : v ≤ thi w) : Gs (becS S w v) := by
  obtain ⟨g1, g2, g3, g4, g5, g6, g7, g8, g9⟩ := id h
  rcases (show w = 0 ∨ w = 1 ∨ w = 2 ∨ w = 3 by omega) with rfl | rfl | rfl | rfl
  · have h1 : 2 ≤ v := h1
    have h2 : v ≤ 6 := h2
    show Gs (newN S v)
    refine Gs.forg (S := (upk (upk S.1 0 v) 6 1, fun _ => ptT v, S.2.2)) ?_
    exact ⟨⟨h1, h2⟩, g2, g3, g4, g5, ⟨Nat.le_refl 1, (by show 1 ≤ 8; omega)⟩, fun _ _ => ptT_lt v h2, g8, g9⟩
  · have h1 : 1 ≤ v := h1
    have h2 : v ≤ 8 := h2
    show Gs (forgS (setC S 1 v))
    exact ⟨g1, ⟨h1, h2⟩, g3, g4, g5, g6, g7, fun _ _ => z0_ok _, fun _ _ => Nat.two_pow_pos _⟩
  · have h2 : v ≤ 3 := h2
    exact ⟨g1, g2, h2, g4, g5, g6, g7, g8, g9⟩
  · have h1 : 1 ≤ v := h1
    have h2 : v ≤ 9 := h2
    exact ⟨g1, g2, g3, ⟨h1, h2⟩, g5, g6, g7, g8, g9⟩
theorem bec_4 (S : Snap) {w v : Nat} (hw : w < 4) : (becS S w v).1 4 ≤ S.1 4 := by
  rcases (show w = 0 ∨ w = 1 ∨ w = 2 ∨ w = 3 by omega) with rfl | rfl | rfl | rfl
  · exact Nat.zero_le _
  · exact Nat.zero_le _
  · show upk S.1 2 v 4 ≤ S.1 4
    rw [upk_n (by decide)]; exact Nat.le_refl _
  · show upk S.1 3 v 4 ≤ S.1 4
    rw [upk_n (by decide)]; exact Nat.le_refl _
theorem lp_forg1 {Q : KQ} {kk : KI → Prop} (I0 : KI) (hM : MdQ Q) (hp : ∀ I, (∀ q, q ≠ 288 → I q = I0 q) → (∀ j, j < 15 → I 288 j = I0 288 j) → (∀ j, 15 ≤ j → j < 69 → I 288 j = 0) → kk I) : ∀ d i I, i + d = 69 → 15 ≤ i → (∀ q, q ≠ 288 → I q = I0 q) → (∀ j, j < 15 → I 288 j = I0 288 j) → (∀ j, 15 ≤ j → j < i → I 288 j = 0) → wp_X11_forgets_L3 Q 287 kk (d + 1) I (nI i) := by
  intro d
  induction d with
  | zero =>
    intro i I hi _ q1 q2 q3
    have : i = 69 := by omega
    subst this
    unfold wp_X11_forgets_L3
    exact br_t (nI_le (a := 69) (Nat.le_refl _) (by decide)) (hp I q1 q2 q3)
  | succ d ih =>
    intro i I hi h15 q1 q2 q3
    unfold wp_X11_forgets_L3
    rw [hM.now, nI_clamp (by omega), nI_1]
    refine br_f (nI_ge (b := 69) (by omega) (by decide)) ⟨vp_in_nI (by omega) (by decide), ?_⟩
    refine ih (i + 1) _ (by omega) (by omega) (fun q hq => by rw [sti_ne _ _ _ hq]; exact q1 q hq) (fun j hj => by rw [sti_at, pk_un (by omega)]; exact q2 j hj) (fun j a b => ?_)
    rw [sti_at]
    by_cases hji : j = i
    · subst hji; rw [pk_us]
    · rw [pk_un hji]; exact q3 j a (by omega)
theorem lp_forg2 {Q : KQ} {post : KI → Prop} (I0 : KI) (hM : MdQ Q) (hp : ∀ I, (∀ q, q ≠ 288 → I q = I0 q) → (∀ j, j < 15 → j ≠ 4 → I 288 j = I0 288 j) → I 288 4 = 0 → (∀ j, 15 ≤ j → j < 69 → I 288 j = if j < 21 then I0 288 j else if (j - 21) % 8 = 0 then 1 else I0 288 j) → post I) : ∀ d v I, v + d = 6 → (∀ q, q ≠ 288 → I q = I0 q) → (∀ j, (j < 21 ∨ 21 + 8 * v ≤ j) → I 288 j = I0 288 j) → (∀ j, 21 ≤ j → j < 21 + 8 * v → I 288 j = if (j - 21) % 8 = 0 then 1 else I0 288 j) → wp_X11_forgets_L24 Q 287 post (d + 1) I (nI v) := by
  intro d
  induction d with
  | zero =>
    intro v I hv q1 q2 q3
    have : v = 6 := by omega
    subst this
    unfold wp_X11_forgets_L24
    rw [hM.now, tc4]
    refine br_t (nI_le (a := 6) (Nat.le_refl _) (by decide)) (hp _ (fun q hq => by rw [sti_ne _ _ _ hq]; exact q1 q hq) (fun j a b => by rw [sti_at, pk_un b]; exact q2 j (by omega)) (by rw [sti_at, pk_us]) (fun j a b => ?_))
    rw [sti_at, pk_un (by omega)]
    by_cases h21 : j < 21
    · rw [if_pos h21]; exact q2 j (by omega)
    · rw [if_neg h21]; exact q3 j (by omega) (by omega)
  | succ d ih =>
    intro v I hv q1 q2 q3
    unfold wp_X11_forgets_L24
    rw [hM.now, show (8 : Int32) * nI v = nI (8 * v) from pk_mul 8 v, show (21 : Int32) + nI (8 * v) = nI (21 + 8 * v) from nI_add 21 _, nI_clamp (by omega), nI_1]
    refine br_f (nI_ge (b := 6) (by omega) (by decide)) ⟨vp_in_nI (by omega) (by decide), ?_⟩
    refine ih (v + 1) _ (by omega) (fun q hq => by rw [sti_ne _ _ _ hq]; exact q1 q hq) (fun j hj => by rw [sti_at, pk_un (by omega)]; exact q2 j (by omega)) (fun j a b => ?_)
    rw [sti_at]
    by_cases hji : j = 21 + 8 * v
    · subst hji
      rw [pk_us, if_pos (by omega)]
    · rw [pk_un hji]
      by_cases hlt : j < 21 + 8 * v
      · exact q3 j a hlt
      · rw [q2 j (by omega), if_neg (by omega)]
/-- the first places of a row -/
def HeadIs (g : Nat → Int32) (S : Snap) : Prop := (∀ i, i < 7 → g i = nI (S.1 i)) ∧ ∀ i, i < S.1 6 → g (7 + i) = nI (S.2.1 i)
theorem ms_forgets {I : KI} {Q : KQ} {S : Snap} {post : KI → Prop} (hM : MdQ Q) (hN : HeadIs (I 288) S) (h8 : S.1 6 ≤ 8) (hp : ∀ I', (∀ q, q ≠ 288 → I' q = I q) → RowIs (I' 288) (forgS S) → post I') : wp_X11_forgets I Q 287 post := by
  refine ⟨55, lp_forg1 I hM (fun I1 w1 w2 w3 => ⟨7, lp_forg2 I1 hM (fun I2 z1 z2 z3 z4 => hp I2 (fun q hq => by rw [z1 q hq, w1 q hq]) ?_) 6 0 I1 rfl (fun _ _ => rfl) (fun _ _ => rfl) (fun j a b => by omega)⟩) 54 15 I rfl (Nat.le_refl _) (fun _ _ => rfl) (fun _ _ => rfl) (fun j a b => by omega)⟩
  refine ⟨fun i hi => ?_, fun i hi => ?_, fun v hv => ?_, fun v hv w hw => ?_⟩
  · show _ = nI (upk S.1 4 0 i)
    by_cases h4 : i = 4
    · subst h4; rw [z3, upk_s]; rfl
    · rw [z2 i (by omega) h4, upk_n h4, w2 i (by omega)]; exact hN.1 i hi
  · have hi' : i < S.1 6 := hi
    rw [z2 (7 + i) (by omega) (by omega), w2 (7 + i) (by omega)]
    exact hN.2 i hi'
  · rw [z4 (15 + v) (by omega) (by omega), if_pos (by omega), w3 (15 + v) (by omega) (by omega)]
    rfl
  · show _ = nI (wrd (kn z0) (32 * w) 32)
    rw [z4 _ (by omega) (by omega), if_neg (by omega)]
    by_cases hw0 : w = 0
    · subst hw0
      rw [if_pos (by omega), z0_w0]
      rfl
    · rw [if_neg (by omega), w3 _ (by omega) (by omega), z0_w w hw hw0]
      rfl
theorem lp_lays2 {Q : KQ} {n : Nat} {post : KI → Prop} (I0 : KI) (hM : MdQ Q) (hn : n ≤ 6) (h0 : I0 288 0 = nI n) (hp : ∀ I, (∀ q, q ≠ 288 → I q = I0 q) → (∀ j, j ≠ 7 → I 288 j = I0 288 j) → I 288 7 = nI (ptT n) → post I) : ∀ d v I, v + d = n → 1 ≤ v → (∀ q, q ≠ 288 → I q = I0 q) → (∀ j, j ≠ 7 → I 288 j = I0 288 j) → I 288 7 = nI (ptT v) → wp_X11_laysPath_L18 Q 287 post (d + 1) I (nI v) := by
  intro d
  induction d with
  | zero =>
    intro v I hv _ q1 q2 q3
    have : v = n := by omega
    subst this
    unfold wp_X11_laysPath_L18
    rw [hM.now, tc0, q2 0 (by decide), h0]
    exact br_t (nI_le (Nat.le_refl _) (by omega)) (hp I q1 q2 q3)
  | succ d ih =>
    intro v I hv h1 q1 q2 q3
    have hlt : pi2 (v - 1) v < 32 := by
      have := pi2_lt 6 (Nat.le_refl 6) (v - 1) (by omega) v (by omega) (by omega)
      omega
    unfold wp_X11_laysPath_L18
    rw [hM.now, tc0, tc7, q2 0 (by decide), h0, show nI v - (1 : Int32) = nI (v - 1) from pk_sub (a := v) (b := 1) h1, q3, nI_1]
    refine br_f (nI_ge (by omega) (by omega)) (ms_linkOf (by omega) (by omega) (by omega) ?_)
    rw [ni_shl1 _ hlt, ni_or]
    have e : ptT v ||| 2 ^ pi2 (v - 1) v = ptT (v + 1) := by
      simp only [ptT]
      rw [if_neg (by omega)]
    rw [e]
    exact ih (v + 1) _ (by omega) (by omega) (fun q hq => by rw [sti_ne _ _ _ hq]; exact q1 q hq) (fun j hj => by rw [sti_at, pk_un hj]; exact q2 j hj) (by rw [sti_at, pk_us])
theorem ms_laysPath {I : KI} {Q : KQ} {n : Nat} {post : KI → Prop} (hM : MdQ Q) (h2 : 2 ≤ n) (hn : n ≤ 6) (h0 : I 288 0 = nI n) (hp : ∀ I', (∀ q, q ≠ 288 → I' q = I q) → (∀ j, j ≠ 6 → j ≠ 7 → I' 288 j = I 288 j) → I' 288 6 = nI 1 → I' 288 7 = nI (ptT n) → post I') : wp_X11_laysPath I Q 287 post := by
  unfold wp_X11_laysPath
  rw [hM.now, tc6, tc7]
  obtain ⟨d, hd⟩ : ∃ d, 1 + d = n := ⟨n - 1, by omega⟩
  refine ⟨d + 1, lp_lays2 (sti (sti I 288 6 1) 288 7 0) hM hn (by rw [sti_at, pk_un (by decide), sti_at, pk_un (by decide)]; exact h0) (fun I' w1 w2 w3 => hp I' (fun q hq => by rw [w1 q hq, sti_ne _ _ _ hq, sti_ne _ _ _ hq]) (fun j a b => by rw [w2 j b, sti_at, pk_un b, sti_at, pk_un a]) (by rw [w2 6 (by decide), sti_at, pk_un (by decide), sti_at, pk_us]; rfl) w3) d 1 _ hd (Nat.le_refl 1) (fun _ _ => rfl) (fun _ _ => rfl) (by rw [sti_at, pk_us]; rfl)⟩
def telM (I : KI) (Q : KQ) (x1 x2 : Int32) (p2 : Int32 → KI → Prop) : Prop := vp_in x1 69 ∧ ((¬ (I (rq Q 287 0) x1.toNatClampNeg) = x2 → wp_X11_remembers I Q 287 (fun I12 => (vp_in x1 69 ∧ (((2 : Int32) ≤ x1 → ((¬ x1 = 0 → p2 (I (rq Q 287 0) x1.toNatClampNeg) (sti I12 (rq Q 287 0) x1.toNatClampNeg x2)) ∧ (x1 = 0 → wp_X11_laysPath (sti I12 (rq Q 287 0) x1.toNatClampNeg x2) Q 287 (fun I16 => p2 (I (rq Q 287 0) x1.toNatClampNeg) I16)))) ∧ (¬ (2 : Int32) ≤ x1 → wp_X11_forgets (sti I12 (rq Q 287 0) x1.toNatClampNeg x2) Q 287 (fun I17 => ((¬ x1 = 0 → p2 (I (rq Q 287 0) x1.toNatClampNeg) I17) ∧ (x1 = 0 → wp_X11_laysPath I17 Q 287 (fun I19 => p2 (I (rq Q 287 0) x1.toNatClampNeg) I19))))))))) ∧ ((I (rq Q 287 0) x1.toNatClampNeg) = x2 → p2 (-2) I))
theorem RowIs.head {g : Nat → Int32} {S : Snap} (h : RowIs g S) : HeadIs g S := ⟨h.1, h.2.1⟩
theorem HeadIs.stC {g : Nat → Int32} {S : Snap} {i x : Nat} (h : HeadIs g S) (hi : i < 6) : HeadIs (upd g i (nI x)) (setC S i x) := by
  have e6 : (setC S i x).1 6 = S.1 6 := upk_n (by omega)
  refine ⟨fun j hj => ?_, fun j hj => by rw [pk_un (by omega)]; rw [e6] at hj; exact h.2 j hj⟩
  show upd g i (nI x) j = nI (upk S.1 i x j)
  by_cases hji : j = i
  · subst hji; rw [pk_us, upk_s]
  · rw [pk_un hji, upk_n hji]; exact h.1 j hj
/-- the reference's way behind a setting that may be -/
theorem ms_telM {I : KI} {Q : KQ} {w v m a b : Nat} {S : Snap} {hs : Nat → Snap} {p2 : Int32 → KI → Prop} (hM : MdQ Q) (hN : RowIs (I 288) S) (hG : Gs S) (hb : HsB b m hs) (h1 : I 287 1 = nI m) (h2 : I 287 2 = nI a) (hm : m ≤ 6) (ha : a < 6) (hR : RingIs (I 289) m a hs) (hw : w < 4) (hlo : tlo w ≤ v) (hhi : v ≤ thi w) (hps : S.1 w = v → p2 (-2) I) (hp : S.1 w ≠ v → ∀ I', (∀ q, q ≠ 287 → q ≠ 288 → q ≠ 289 → I' q = I q) → (∀ j, j ≠ 1 → j ≠ 2 → I' 287 j = I 287 j) → I' 287 1 = nI (keepN m) → I' 287 2 = nI ((a + 1) % 6) → RingIs (I' 289) (keepN m) ((a + 1) % 6) (keepH m hs S) → RowIs (I' 288) (becS S w v) → p2 (nI (S.1 w)) I') : telM I Q (nI w) (nI v) p2 := by
  have hv9 : v ≤ 9 := by
    have : ∀ w, w < 4 → thi w ≤ 9 := by decide
    have := this w hw
    omega
  have hS9 : S.1 w ≤ 9 := by
    obtain ⟨g1, g2, g3, g4, -⟩ := hG
    rcases (show w = 0 ∨ w = 1 ∨ w = 2 ∨ w = 3 by omega) with rfl | rfl | rfl | rfl <;> omega
  have h8 := hG.2.2.2.2.2.1.2
  unfold telM
  rw [hM.now, nI_clamp (n := w) (by omega), hN.1 w (by omega), nI_eq (by omega) (by omega)]
  refine ⟨vp_in_nI (by omega) (by decide), fun c => ms_remembers hM hN hG hb h1 h2 hm ha hR (fun I3 y1 y2 y3 y4 y5 => ⟨vp_in_nI (by omega) (by decide), ?_⟩), hps⟩
  have e288 : I3 288 = I 288 := y1 288 (by decide) (by decide)
  have hst : ∀ q, q ≠ 288 → sti I3 288 w (nI v) q = I3 q := fun q hq => sti_ne _ _ _ hq
  rcases (show w = 0 ∨ w = 1 ∨ w = 2 ∨ w = 3 by omega) with rfl | rfl | rfl | rfl
  · refine ⟨fun c => absurd c (by decide), fun _ => ?_⟩
    have hv2 : 2 ≤ v := hlo
    have hv6 : v ≤ 6 := hhi
    refine ms_forgets (S := setC S 0 v) hM (by rw [sti_at, e288]; exact hN.head.stC (by decide)) (by show upk S.1 0 v 6 ≤ 8; rw [upk_n (by decide)]; exact h8) (fun I4 u1 u2 => ⟨fun c => absurd rfl c, fun _ => ?_⟩)
    have e0 : I4 288 0 = nI v := by
      rw [u2.n]
      show nI (upk (upk S.1 0 v) 4 0 0) = nI v
      rw [upk_n (by decide), upk_s]
    refine ms_laysPath hM hv2 hv6 e0 (fun I5 t1 t2 t3 t4 => hp c I5 (fun q d1 d2 d3 => by rw [t1 q d2, u1 q d2, hst q d2, y1 q d1 d3]) (fun j d1 d2 => by rw [t1 287 (by decide), u1 287 (by decide), hst 287 (by decide), y2 j d1 d2]) (by rw [t1 287 (by decide), u1 287 (by decide), hst 287 (by decide)]; exact y3) (by rw [t1 287 (by decide), u1 287 (by decide), hst 287 (by decide)]; exact y4) (by rw [t1 289 (by decide), u1 289 (by decide), hst 289 (by decide)]; exact y5) ?_)
    show RowIs (I5 288) (newN S v)
    refine ⟨fun i hi => ?_, fun i hi => ?_, fun u hu => ?_, fun u hu w hw => ?_⟩
    · show _ = nI (upk (upk (upk S.1 0 v) 6 1) 4 0 i)
      by_cases h6 : i = 6
      · subst h6; rw [t3, upk_n (by decide), upk_s]
      · rw [t2 i h6 (by omega), u2.1 i hi]
        show nI (upk (upk S.1 0 v) 4 0 i) = _
        by_cases h4 : i = 4
        · subst h4; rw [upk_s, upk_s]
        · rw [upk_n h4, upk_n h4, upk_n h6]
    · have hi1 : i < upk (upk (upk S.1 0 v) 6 1) 4 0 6 := hi
      rw [upk_n (by decide), upk_s] at hi1
      have : i = 0 := by omega
      subst this
      exact t4
    · rw [t2 _ (by omega) (by omega)]
      exact u2.2.2.1 u hu
    · rw [t2 _ (by omega) (by omega)]
      exact u2.2.2.2 u hu w hw
  · refine ⟨fun c => absurd c (by decide), fun _ => ?_⟩
    refine ms_forgets (S := setC S 1 v) hM (by rw [sti_at, e288]; exact hN.head.stC (by decide)) (by show upk S.1 1 v 6 ≤ 8; rw [upk_n (by decide)]; exact h8) (fun I4 u1 u2 => ⟨fun _ => ?_, fun c => absurd c (by decide)⟩)
    exact hp c I4 (fun q d1 d2 d3 => by rw [u1 q d2, hst q d2, y1 q d1 d3]) (fun j d1 d2 => by rw [u1 287 (by decide), hst 287 (by decide), y2 j d1 d2]) (by rw [u1 287 (by decide), hst 287 (by decide)]; exact y3) (by rw [u1 287 (by decide), hst 287 (by decide)]; exact y4) (by rw [u1 289 (by decide), hst 289 (by decide)]; exact y5) u2
  · refine ⟨fun _ => ⟨fun _ => ?_, fun c => absurd c (by decide)⟩, fun c => absurd (show (2 : Int32) ≤ nI 2 by decide) c⟩
    exact hp c _ (fun q d1 d2 d3 => by rw [hst q d2, y1 q d1 d3]) (fun j d1 d2 => by rw [hst 287 (by decide), y2 j d1 d2]) (by rw [hst 287 (by decide)]; exact y3) (by rw [hst 287 (by decide)]; exact y4) (by rw [hst 289 (by decide)]; exact y5) (by rw [sti_at, e288]; exact hN.stC (by decide))
  · refine ⟨fun _ => ⟨fun _ => ?_, fun c => absurd c (by decide)⟩, fun c => absurd (show (2 : Int32) ≤ nI 3 by decide) c⟩
    exact hp c _ (fun q d1 d2 d3 => by rw [hst q d2, y1 q d1 d3]) (fun j d1 d2 => by rw [hst 287 (by decide), y2 j d1 d2]) (by rw [hst 287 (by decide)]; exact y3) (by rw [hst 287 (by decide)]; exact y4) (by rw [hst 289 (by decide)]; exact y5) (by rw [sti_at, e288]; exact hN.stC (by decide))
theorem rng_c {x : Int32} {lo hi : Nat} {p : Int32 → Prop} (hlo : lo < 2 ^ 31) (hhi : hi < 2 ^ 31) (h1 : ∀ j, lo ≤ j → j ≤ hi → x = nI j → p 1) (h0 : (∀ j, lo ≤ j → j ≤ hi → ¬ x = nI j) → p 0) : (x < nI lo → p 0) ∧ (¬ x < nI lo → ((nI hi < x → p 0) ∧ (¬ nI hi < x → p 1))) := by
  refine ⟨fun c => h0 (fun j q1 q2 e => by rw [e] at c; exact nI_nlt q1 (by omega) c), fun c => ⟨fun c2 => h0 (fun j q1 q2 e => by rw [e] at c2; exact nI_nlt q2 (by omega) c2), fun c2 => ?_⟩⟩
  have h3 : ∃ j, lo ≤ j ∧ j ≤ hi ∧ x = nI j := by
    rcases inCase x lo hi with h | h
    · exact h
    · refine absurd (rng_no h hlo hhi c ?_) id
      rw [Int32.le_iff_toInt_le]
      rw [Int32.lt_iff_toInt_lt] at c2
      omega
  obtain ⟨j, q1, q2, q3⟩ := h3
  exact h1 j q1 q2 q3
set_option maxHeartbeats 1000000 in
theorem op_tell {I : KI} {J : KJ} {Q : KQ} {b : Nat} {x1 x2 : Int32} {post : Int32 → KI → KQ → Prop} (h : Rel I J Q b) (hp : ∀ r I4 Q4, (∀ p2 : Int32 → KI → Prop, (∀ I5, Rel I5 J Q4 b → p2 r I5) → wp_X11_tell I4 Q4 287 x1 x2 p2) → post r I4 Q4) : wp_X10_tell I Q 0 x1 x2 post := by
  obtain ⟨hR, π, hP, S, hs, m, hC⟩ := id h
  obtain ⟨c1, c2, c3, c4, ⟨a, ha, c5, c6⟩, hG, hb, hH⟩ := hC
  obtain ⟨⟨a0, a1, -⟩, ⟨q1, -⟩, -, -, hM⟩ := id hR.1
  have h8 := hG.2.2.2.2.2.1.2
  have core : ∀ w v, w < 4 → tlo w ≤ v → v ≤ thi w → x1 = nI w → x2 = nI v → (∀ I' Q', ClsQ Q' → ∀ p2, telM I' Q' (nI w) (nI v) p2 → wp_X11_tell I' Q' 287 (nI w) (nI v) p2) → ((¬ nI (S.1 w) = nI v → wp_X3_keep I Q 18 1 (fun I9 Q9 => wp_X1_become I9 Q9 (rq Q9 0 0) (nI w) (nI v) (fun I11 => post (nI (S.1 w)) I11 Q9))) ∧ (nI (S.1 w) = nI v → post (-2) I Q)) := by
    rintro w v hw hlo hhi rfl rfl hT
    have hv9 : v ≤ 9 := by
      have : ∀ w, w < 4 → thi w ≤ 9 := by decide
      have := this w hw
      omega
    have hS9 : S.1 w ≤ 9 := by
      obtain ⟨g1, g2, g3, g4, -⟩ := hG
      rcases (show w = 0 ∨ w = 1 ∨ w = 2 ∨ w = 3 by omega) with rfl | rfl | rfl | rfl <;> omega
    rw [nI_eq (by omega) (by omega)]
    refine ⟨fun c => sp_keep hP c2 q1 c1 h8 (by omega) (fun I' Q' π' w1 w2 w3 w4 => ?_), fun c => hp _ _ _ (fun p2 h2 => hT _ _ hR.1 _ (ms_telM hM c3 hG hH c4 c5 c2.2.1 ha c6 hw hlo hhi (fun _ => h2 I h) (fun z => absurd c z)))⟩
    have hQ' := hR.1.fr w2
    obtain ⟨⟨a0', a1', -⟩, ⟨q1', -⟩, -, -, hM'⟩ := id hQ'
    have n1 : NetIs I' 1 S := c1.fr (fun k z1 z2 => w1 k (by omega))
    rw [a0']
    refine sp_become q1' n1 hw (fun z => by subst z; exact ⟨hlo, hhi⟩) (fun I2 z1 z2 => hp _ _ _ (fun p2 h2 => hT _ _ hQ' _ ?_))
    have f1 : ∀ q, (122 ≤ q ∨ q = 0) → I2 q = I q := fun q hq => by rw [z1 q (by omega), w1 q (by omega)]
    refine ms_telM (a := a) hM' (by rw [f1 288 (by omega)]; exact c3) hG hH (by rw [f1 287 (by omega)]; exact c4) (by rw [f1 287 (by omega)]; exact c5) c2.2.1 ha (by rw [f1 289 (by omega)]; exact c6) hw hlo hhi (fun z => absurd z c) (fun _ I5 u1 u2 u3 u4 u5 u6 => h2 I5 ?_)
    have hb4 := bec_4 S (v := v) hw
    refine ⟨hR.fr (Nat.le_refl b) w2 ⟨fun q hq => ?_, ?_, fun j hj => ?_⟩, π', w3, becS S w v, keepH m hs S, keepN m, RelC.mk2 ?_ ?_ u6 u3 (show (a + 1) % 6 < 6 by omega) u4 u5 (hG.bec hw hlo hhi) (by omega) (hH.keep hG hb c2.2.1)⟩
    · rw [u1 q (by omega) (by omega) (by omega), f1 q (by omega)]
    · rw [u1 274 (by omega) (by omega) (by omega), f1 274 (by omega)]
    · rw [u2 j (by omega) (by omega), f1 287 (by omega)]
    · exact z2.fr (fun q d1 d2 => u1 q (by omega) (by omega) (by omega))
    · exact w4.fr w3 (fun q d1 d2 => by rw [u1 q (by omega) (by omega) (by omega), z1 q (by omega)])
  have bad : ∀ w, w < 4 → x1 = nI w → (∀ j, tlo w ≤ j → j ≤ thi w → ¬ x2 = nI j) → ∀ p2 : Int32 → KI → Prop, (∀ I5, Rel I5 J Q b → p2 (-1) I5) → wp_X11_tell I Q 287 x1 x2 p2 := by
    rintro w hw rfl hno p2 h2
    unfold wp_X11_tell
    rcases (show w = 0 ∨ w = 1 ∨ w = 2 ∨ w = 3 by omega) with rfl | rfl | rfl | rfl
    · exact ⟨fun c => absurd rfl c, fun _ => ms_in0 (lo := 2) (hi := 6) hno (by decide) (by decide) ⟨fun c => absurd rfl c, fun _ => h2 I h⟩⟩
    · exact ⟨fun _ => ⟨fun c => absurd rfl c, fun _ => ms_in0 (lo := 1) (hi := 8) hno (by decide) (by decide) ⟨fun c => absurd rfl c, fun _ => h2 I h⟩⟩, fun c => absurd c (by decide)⟩
    · exact ⟨fun _ => ⟨fun _ => ⟨fun c => absurd rfl c, fun _ => ms_in0 (lo := 0) (hi := 3) hno (by decide) (by decide) ⟨fun c => absurd rfl c, fun _ => h2 I h⟩⟩, fun c => absurd c (by decide)⟩, fun c => absurd c (by decide)⟩
    · exact ⟨fun _ => ⟨fun _ => ⟨fun _ => ⟨fun c => absurd rfl c, fun _ => ms_in0 (lo := 1) (hi := 9) hno (by decide) (by decide) ⟨fun _ => h2 I h, fun c => absurd rfl c⟩⟩, fun c => absurd c (by decide)⟩, fun c => absurd c (by decide)⟩, fun c => absurd c (by decide)⟩
  have zero : ∀ p2 : Int32 → KI → Prop, ((¬ (0 : Int32) = 0 → False) → True) := fun _ _ => trivial
  have e3 : ∀ i, i < 6 → I 1 (3 + i) = nI (S.1 i) := c1.1
  unfold wp_X10_tell
  rw [a0, a1]
  unfold wp_X1_mayBecome
  have dd : ∀ {P : Prop} {u v : Int32}, u = v → (decide (u = v) = false) → P := fun {P} {u v} q1 q2 => by
    rw [decide_eq_true q1] at q2; cases q2
  refine ⟨fun c => ?_, fun c => ?_, fun c => ?_, fun c => ?_, fun d0 d1 d2 d3 => ?_⟩
  · refine rng_c (lo := 2) (hi := 6) (p := fun r2 => (¬ r2 = 0 → _) ∧ (r2 = 0 → _)) (by decide) (by decide) (fun v k1 k2 k3 => ⟨fun _ => ?_, fun z => absurd z (by decide)⟩) (fun hno => ⟨fun z => absurd rfl z, fun _ => hp _ _ _ (bad 0 (by decide) c hno)⟩)
    subst c; subst k3
    unfold wp_X1_setting
    refine ⟨fun _ => ?_, fun c => dd c rfl, fun c => dd c rfl, fun c => absurd rfl c⟩
    rw [show I 1 3 = nI (S.1 0) from e3 0 (by omega)]
    refine core 0 v (by decide) k1 k2 rfl rfl (fun I' Q' hQ p2 hT => ?_)
    unfold wp_X11_tell
    exact ⟨fun c => absurd rfl c, fun _ => ms_in1 (lo := 2) (hi := 6) k1 k2 (by decide) ⟨fun _ => hT, fun c => absurd c (by decide)⟩⟩
  · refine rng_c (lo := 1) (hi := 8) (p := fun r2 => (¬ r2 = 0 → _) ∧ (r2 = 0 → _)) (by decide) (by decide) (fun v k1 k2 k3 => ⟨fun _ => ?_, fun z => absurd z (by decide)⟩) (fun hno => ⟨fun z => absurd rfl z, fun _ => hp _ _ _ (bad 1 (by decide) c hno)⟩)
    subst c; subst k3
    unfold wp_X1_setting
    refine ⟨fun c => dd c rfl, fun _ => ?_, fun c => dd c rfl, fun _ c => absurd rfl c⟩
    rw [show I 1 4 = nI (S.1 1) from e3 1 (by omega)]
    refine core 1 v (by decide) k1 k2 rfl rfl (fun I' Q' hQ p2 hT => ?_)
    unfold wp_X11_tell
    exact ⟨fun _ => ⟨fun c => absurd rfl c, fun _ => ms_in1 (lo := 1) (hi := 8) k1 k2 (by decide) ⟨fun _ => hT, fun c => absurd c (by decide)⟩⟩, fun c => absurd c (by decide)⟩
  · refine rng_c (lo := 0) (hi := 3) (p := fun r2 => (¬ r2 = 0 → _) ∧ (r2 = 0 → _)) (by decide) (by decide) (fun v k1 k2 k3 => ⟨fun _ => ?_, fun z => absurd z (by decide)⟩) (fun hno => ⟨fun z => absurd rfl z, fun _ => hp _ _ _ (bad 2 (by decide) c hno)⟩)
    subst c; subst k3
    unfold wp_X1_setting
    refine ⟨fun c => dd c rfl, fun c => dd c rfl, fun _ => ?_, fun _ _ c => absurd rfl c⟩
    rw [show I 1 5 = nI (S.1 2) from e3 2 (by omega)]
    refine core 2 v (by decide) k1 k2 rfl rfl (fun I' Q' hQ p2 hT => ?_)
    unfold wp_X11_tell
    exact ⟨fun _ => ⟨fun _ => ⟨fun c => absurd rfl c, fun _ => ms_in1 (lo := 0) (hi := 3) k1 k2 (by decide) ⟨fun _ => hT, fun c => absurd c (by decide)⟩⟩, fun c => absurd c (by decide)⟩, fun c => absurd c (by decide)⟩
  · refine rng_c (lo := 1) (hi := 9) (p := fun r2 => (¬ r2 = 0 → _) ∧ (r2 = 0 → _)) (by decide) (by decide) (fun v k1 k2 k3 => ⟨fun _ => ?_, fun z => absurd z (by decide)⟩) (fun hno => ⟨fun z => absurd rfl z, fun _ => hp _ _ _ (bad 3 (by decide) c hno)⟩)
    subst c; subst k3
    unfold wp_X1_setting
    refine ⟨fun c => dd c rfl, fun c => dd c rfl, fun c => dd c rfl, fun _ _ _ => ?_⟩
    rw [show I 1 6 = nI (S.1 3) from e3 3 (by omega)]
    refine core 3 v (by decide) k1 k2 rfl rfl (fun I' Q' hQ p2 hT => ?_)
    unfold wp_X11_tell
    exact ⟨fun _ => ⟨fun _ => ⟨fun _ => ⟨fun c => absurd rfl c, fun _ => ms_in1 (lo := 1) (hi := 9) k1 k2 (by decide) ⟨fun c => absurd c (by decide), fun _ => hT⟩⟩, fun c => absurd c (by decide)⟩, fun c => absurd c (by decide)⟩, fun c => absurd c (by decide)⟩
  · refine ⟨fun c => absurd rfl c, fun _ => hp _ _ _ (fun p2 h2 => ?_)⟩
    unfold wp_X11_tell
    exact ⟨fun _ => ⟨fun _ => ⟨fun _ => ⟨fun _ => h2 I h, fun c => absurd c d3⟩, fun c => absurd c d2⟩, fun c => absurd c d1⟩, fun c => absurd c d0⟩
