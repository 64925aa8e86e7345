/-! PURE, 20: drift, image, restore -/
/-- a turn of a drift: the draw then, x of it -/
def tuX (S : Snap) (d x : Nat) : Snap := if x % 4 = 0 then stepS (setC S 5 d) else if x % 4 = 3 then setC (setC S 5 d) 2 (x / 4 % 4) else setP (setC S 5 d) (x / 4 % S.1 0) (adS (S.2.2.1 (x / 4 % S.1 0)) (2 ^ (x / 64 % S.1 1)))
def tuS (S : Snap) : Snap := tuX S (chg (S.1 5)) (chg (S.1 5) / 65536)
theorem tuS_eq {S : Snap} {d x : Nat} (hd : chg (S.1 5) = d) (hx : d / 65536 = x) : tuS S = tuX S d x := by
  subst hd
  subst hx
  rfl
theorem Gs.dr {S : Snap} {d : Nat} (h : Gs S) (hd : d < 2 ^ 31) : Gs (setC S 5 d) := by
  obtain ⟨g1, g2, g3, g4, g5, g6, g7, g8, g9⟩ := h
  exact ⟨g1, g2, g3, g4, (by show upk S.1 5 d 5 < 2 ^ 31; rw [upk_s]; exact hd), g6, g7, g8, g9⟩
theorem dr_c (S : Snap) (d : Nat) {i : Nat} (hi : i ≠ 5) : (setC S 5 d).1 i = S.1 i := upk_n hi
theorem Gs.tuX2 {S : Snap} {d x : Nat} (h : Gs S) (hd : d < 2 ^ 31) : Gs (tuX S d x) := by
  have hd := h.dr hd
  have h1 := h.1
  have h2 := h.2.1
  unfold tuX
  by_cases c : x % 4 = 0
  · rw [if_pos c]; exact Gs_step hd
  · rw [if_neg c]
    by_cases c2 : x % 4 = 3
    · rw [if_pos c2]
      obtain ⟨g1, g2, g3, g4, g5, g6, g7, g8, g9⟩ := hd
      exact ⟨g1, g2, (by show x / 4 % 4 ≤ 3; omega), g4, g5, g6, g7, g8, g9⟩
    · rw [if_neg c2]
      have hv : x / 4 % S.1 0 < S.1 0 := Nat.mod_lt _ (by omega)
      have ht : x / 64 % S.1 1 < S.1 1 := Nat.mod_lt _ (by omega)
      exact hd.ad (v := x / 4 % S.1 0) (by omega) (Nat.pow_lt_pow_right (by omega) ht)
theorem tuX_4 (S : Snap) (d x : Nat) : (tuX S d x).1 4 ≤ S.1 4 + 1 := by
  unfold tuX
  by_cases c : x % 4 = 0
  · rw [if_pos c, stepS_4]
    exact Nat.le_of_eq (by rw [dr_c S d (by decide)])
  · rw [if_neg c]
    by_cases c2 : x % 4 = 3
    · rw [if_pos c2]
      show upk (setC S 5 d).1 2 (x / 4 % 4) 4 ≤ _
      rw [upk_n (by decide), dr_c S d (by decide)]; omega
    · rw [if_neg c2]
      show (setC S 5 d).1 4 ≤ _
      rw [dr_c S d (by decide)]; omega
theorem Gs.tu {S : Snap} (h : Gs S) : Gs (tuS S) := by
  rw [tuS_eq rfl rfl]
  exact h.tuX2 (chg_lt _)
theorem tu_4 (S : Snap) : (tuS S).1 4 ≤ S.1 4 + 1 := by
  rw [tuS_eq rfl rfl]
  exact tuX_4 _ _ _
theorem sp_turn {I : KI} {Q : KQ} {S : Snap} {post : KI → Prop} (hQ : ClsQ Q) (hN : NetIs I 1 S) (hG : Gs S) (hr : S.1 4 < 2 ^ 30) (hp : ∀ I', (∀ k, (18 ≤ k ∨ k = 0) → k ≠ 260 → k ≠ 261 → k ≠ 262 → I' k = I k) → NetIs I' 1 (tuS S) → post I') : wp_X10_turn I Q 0 post := by
  obtain ⟨⟨a0, a1, a2, a3, a4, a5, -⟩, ⟨q1, q2, q3, q4⟩, -, -, hM⟩ := id hQ
  have h1 := hG.1
  have h2 := hG.2.1
  have hc := chg_lt (S.1 5)
  unfold wp_X10_turn
  rw [a0, a5, show I 1 8 = nI (S.1 5) from hN.1 5 (by omega)]
  refine sp_changed ?_
  obtain ⟨d, hd⟩ : ∃ d, chg (S.1 5) = d := ⟨_, rfl⟩
  rw [hd] at hc ⊢
  have n1 : NetIs (sti I 1 8 (nI d)) 1 (setC S 5 d) := hN.stC (i := 5) (by omega) (by omega)
  rw [show sti I 1 8 (nI d) 1 8 = nI d by rw [sti_at, pk_us]]
  refine sp_drawn hc ?_
  obtain ⟨x, hx⟩ : ∃ x, d / 65536 = x := ⟨_, rfl⟩
  have hx31 : x < 2 ^ 31 := by omega
  rw [hx]
  rw [tuS_eq hd hx] at hp
  rw [show nI x - nI x / (4 : Int32) * (4 : Int32) = nI (x % 4) from pk_rem (by omega) (by decide) (by decide), show nI x / (4 : Int32) = nI (x / 4) from pk_div (by omega) (by decide) (by decide), show nI x / (64 : Int32) = nI (x / 64) from pk_div (by omega) (by decide) (by decide), show nI (x / 4) - nI (x / 4) / (4 : Int32) * (4 : Int32) = nI (x / 4 % 4) from pk_rem (by omega) (by decide) (by decide)]
  have hx4 : x % 4 < 4 := Nat.mod_lt _ (by decide)
  refine ⟨fun c => ?_, fun c => ?_, fun c e => ?_⟩
  · have hx := (nI_z (by omega)).mp c
    refine sp_pass q4 q1 n1 (hG.dr hc) (by omega) (by rw [dr_c S d (by decide)]; omega) (fun I' w1 w2 => hp I' (fun k d1 d2 d3 d4 => by rw [w1 k (by omega) d2 d3 d4, sti_ne _ _ _ (by omega)]) ?_)
    unfold tuX
    rw [if_pos hx]
    exact w2
  · have hx := (nI_eq (b := 3) (by omega) (by decide)).mp c
    refine hp _ (fun k d1 d2 d3 d4 => by rw [sti_ne _ _ _ (by omega), sti_ne _ _ _ (by omega)]) ?_
    unfold tuX
    rw [if_neg (by omega), if_pos hx]
    exact n1.stC (i := 2) (by omega) (by omega)
  · have hx0 : ¬ x % 4 = 0 := fun z => c (by rw [z]; rfl)
    have hx3 : ¬ x % 4 = 3 := fun z => e (by rw [z]; rfl)
    have hv : x / 4 % S.1 0 < S.1 0 := Nat.mod_lt _ (by omega)
    have ht : x / 64 % S.1 1 < S.1 1 := Nat.mod_lt _ (by omega)
    have ht2 : 2 ^ (x / 64 % S.1 1) < 2 ^ S.1 1 := Nat.pow_lt_pow_right (by omega) ht
    have hk8 : 2 ^ S.1 1 ≤ 2 ^ 8 := Nat.pow_le_pow_right (by omega) h2.2
    have hB := hG.2.2.2.2.2.2.2.1 (x / 4 % S.1 0) (by omega)
    have e0 : sti I 1 8 (nI d) 1 3 = nI (S.1 0) := n1.1 0 (by omega)
    have e1 : sti I 1 8 (nI d) 1 4 = nI (S.1 1) := n1.1 1 (by omega)
    rw [e0, e1]
    refine sp_leftOver (by omega) (by omega) (by omega) ⟨vp_in_nI (by omega) (by decide), sp_leftOver (by omega) (by omega) (by omega) ?_⟩
    rw [nI_clamp (by omega), q1.2.2.1, q1.2.2.2.2.1 _ (by omega), ni_shl1 _ (by omega)]
    refine sp_add (f := S.2.2.1 (x / 4 % S.1 0)) (k := S.1 1) (q1.2.2.2.2.2 _ (by omega)) hB.1 h2.2 (by omega) (n1.sp (by omega)) (fun g z1 z2 => hp _ (fun k d1 d2 d3 d4 => by rw [upk_n (by omega), sti_ne _ _ _ (by omega)]) ?_)
    unfold tuX
    rw [if_neg hx0, if_neg hx3]
    exact n1.stP (by omega) z1
/-- drifts by turns T: the state, what can be undone, how much -/
def drfT (T : Snap → Snap) : Nat → Snap → (Nat → Snap) → Nat → Snap × (Nat → Snap) × Nat
  | 0, S, hs, m => (S, hs, m)
  | d + 1, S, hs, m => drfT T d (T S) (keepH m hs S) (keepN m)
theorem lp_drift {T : Snap → Snap} (hTG : ∀ S, Gs S → Gs (T S)) (hT4 : ∀ S, (T S).1 4 ≤ S.1 4 + 1) (hT : ∀ I Q S (post : KI → Prop), ClsQ Q → NetIs I 1 S → Gs S → S.1 4 < 2 ^ 30 → (∀ I', (∀ k, (18 ≤ k ∨ k = 0) → k ≠ 260 → k ≠ 261 → k ≠ 262 → I' k = I k) → NetIs I' 1 (T S) → post I') → wp_X10_turn I Q 0 post) {n : Nat} (hn : n < 2 ^ 30) {kk : KI → KQ → Prop} (I0 : KI) (Q0 : KQ) (hQ0 : ClsQ Q0) : ∀ d i I Q π S hs m b, i + d = n → (∀ k, k ≠ 19 → Q k = Q0 k) → PastQ Q 18 π → NetIs I 1 S → PastI I 18 π m hs → Gs S → S.1 4 ≤ b → b + d < 2 ^ 30 → (∀ k, (122 ≤ k ∨ k = 0) → k ≠ 260 → k ≠ 261 → k ≠ 262 → I k = I0 k) → (∀ I' Q' π', (∀ k, k ≠ 19 → Q' k = Q0 k) → PastQ Q' 18 π' → NetIs I' 1 (drfT T d S hs m).1 → PastI I' 18 π' (drfT T d S hs m).2.2 (drfT T d S hs m).2.1 → Gs (drfT T d S hs m).1 → (∀ k, (122 ≤ k ∨ k = 0) → k ≠ 260 → k ≠ 261 → k ≠ 262 → I' k = I0 k) → kk I' Q') → wp_X10_drift_L15 0 (nI n) kk (d + 1) I Q (nI i) := by
  intro d
  induction d with
  | zero =>
    intro i I Q π S hs m b hi f1 hP hN hI hG hb hbb f2 hp
    have : i = n := by omega
    subst this
    unfold wp_X10_drift_L15
    exact br_t (nI_le (Nat.le_refl _) (by omega)) (hp I Q π f1 hP hN hI hG f2)
  | succ d ih =>
    intro i I Q π S hs m b hi f1 hP hN hI hG hb hbb f2 hp
    have hQ := hQ0.fr f1
    obtain ⟨⟨a0, a1, -⟩, ⟨q1, -⟩, -⟩ := id hQ
    unfold wp_X10_drift_L15
    rw [a0, a1, nI_1]
    refine br_f (nI_ge (by omega) (by omega)) (sp_keep hP hI q1 hN hG.2.2.2.2.2.1.2 (by omega) (fun I' Q' π' w1 w2 w3 w4 => ?_))
    have hQ' := hQ.fr w2
    have n1 : NetIs I' 1 S := hN.fr (fun k z1 z2 => w1 k (by omega))
    refine hT I' Q' S _ hQ' n1 hG (by omega) (fun I2 z1 z2 => ?_)
    have h4 := hT4 S
    exact ih (i + 1) I2 Q' π' (T S) (keepH m hs S) (keepN m) (b + 1) (by omega) (fun k hk => by rw [w2 k hk]; exact f1 k hk) w3 z2 (w4.fr w3 (fun k d1 d2 => z1 k (by omega) (by omega) (by omega) (by omega))) (hTG S hG) (by omega) (by omega) (fun k d1 d2 d3 d4 => by rw [z1 k (by omega) d2 d3 d4, w1 k (by omega)]; exact f2 k d1 d2 d3 d4) hp
theorem HsB.dr {T : Snap → Snap} (hTG : ∀ S, Gs S → Gs (T S)) (hT4 : ∀ S, (T S).1 4 ≤ S.1 4 + 1) : ∀ d b S hs m, Gs S → S.1 4 ≤ b → HsB b m hs → m ≤ 6 → HsB (b + d) (drfT T d S hs m).2.2 (drfT T d S hs m).2.1 ∧ (drfT T d S hs m).1.1 4 ≤ b + d := by
  intro d
  induction d with
  | zero => intro b S hs m hG hb hH hm; exact ⟨hH, hb⟩
  | succ d ih =>
    intro b S hs m hG hb hH hm
    have h4 := hT4 S
    have := ih (b + 1) (T S) (keepH m hs S) (keepN m) (hTG S hG) (by omega) ((hH.keep hG hb hm).mono (by omega)) (keepN_le m)
    rw [show b + (d + 1) = b + 1 + d by omega]
    exact this
/-- a turn of the reference -/
theorem ms_turn {Q : KQ} {S : Snap} {I5 : KI} {kk : KI → Prop} (hM : MdQ Q) (hN : RowIs (I5 288) S) (hG : Gs S) (hr : S.1 4 < 2 ^ 30) (go : ∀ I', (∀ q, q ≠ 287 → q ≠ 288 → q ≠ 292 → q ≠ 293 → q ≠ 294 → I' q = I5 q) → (∀ j, j ≠ 12 → I' 287 j = I5 287 j) → RowIs (I' 288) (tuS S) → kk I') : wp_X11_goesOn (I5 288 5) (fun r8 => (((((sti I5 288 5 r8) 288 5) / 65536) - (((sti I5 288 5 r8) 288 5) / 65536) / 4 * 4) = 0 → wp_X11_goes (sti I5 288 5 r8) Q 287 kk) ∧ (((((sti I5 288 5 r8) 288 5) / 65536) - (((sti I5 288 5 r8) 288 5) / 65536) / 4 * 4) = 3 → kk (sti (sti I5 288 5 r8) 288 2 (((((sti I5 288 5 r8) 288 5) / 65536) / 4) - ((((sti I5 288 5 r8) 288 5) / 65536) / 4) / 4 * 4))) ∧ (¬ ((((sti I5 288 5 r8) 288 5) / 65536) - (((sti I5 288 5 r8) 288 5) / 65536) / 4 * 4) = 0 → ¬ ((((sti I5 288 5 r8) 288 5) / 65536) - (((sti I5 288 5 r8) 288 5) / 65536) / 4 * 4) = 3 → (¬ ((sti I5 288 5 r8) 288 0) = 0 ∧ (¬ ((sti I5 288 5 r8) 288 1) = 0 ∧ wp_X11_learns (sti I5 288 5 r8) Q 287 (((((sti I5 288 5 r8) 288 5) / 65536) / 4) - ((((sti I5 288 5 r8) 288 5) / 65536) / 4) / ((sti I5 288 5 r8) 288 0) * ((sti I5 288 5 r8) 288 0)) ((1 : Int32) <<< ((((((sti I5 288 5 r8) 288 5) / 65536) / 64) - ((((sti I5 288 5 r8) 288 5) / 65536) / 64) / ((sti I5 288 5 r8) 288 1) * ((sti I5 288 5 r8) 288 1)) &&& 31)) kk)))) := by
  have hn1 := hG.1
  have hk := hG.2.1
  have hc := chg_lt (S.1 5)
  rw [hN.d]
  refine ms_goesOn ?_
  obtain ⟨d, hd⟩ : ∃ d, chg (S.1 5) = d := ⟨_, rfl⟩
  rw [hd] at hc ⊢
  obtain ⟨x, hx⟩ : ∃ x, d / 65536 = x := ⟨_, rfl⟩
  have hx31 : x < 2 ^ 31 := by omega
  rw [tuS_eq hd hx] at go
  have eS : sti I5 288 5 (nI d) 288 = upd (I5 288) 5 (nI d) := sti_at _ _ _ _
  have hN2 : RowIs (sti I5 288 5 (nI d) 288) (setC S 5 d) := by rw [eS]; exact hN.stC (by decide)
  have k2 : ∀ q, q ≠ 288 → sti I5 288 5 (nI d) q = I5 q := fun q hq => sti_ne _ _ _ hq
  have e5 : sti I5 288 5 (nI d) 288 5 = nI d := by rw [sti_at, pk_us]
  have e0 : sti I5 288 5 (nI d) 288 0 = nI (S.1 0) := hN2.n.trans (by rw [dr_c S d (by decide)])
  have e1 : sti I5 288 5 (nI d) 288 1 = nI (S.1 1) := hN2.k.trans (by rw [dr_c S d (by decide)])
  rw [e5, e0, e1]
  rw [show nI d / (65536 : Int32) = nI (d / 65536) from pk_div hc (by decide) (by decide), hx]
  rw [show nI x - nI x / (4 : Int32) * (4 : Int32) = nI (x % 4) from pk_rem (by omega) (by decide) (by decide), show nI x / (4 : Int32) = nI (x / 4) from pk_div (by omega) (by decide) (by decide), show nI x / (64 : Int32) = nI (x / 64) from pk_div (by omega) (by decide) (by decide), show nI (x / 4) - nI (x / 4) / (4 : Int32) * (4 : Int32) = nI (x / 4 % 4) from pk_rem (by omega) (by decide) (by decide), show nI (x / 4) - nI (x / 4) / nI (S.1 0) * nI (S.1 0) = nI (x / 4 % S.1 0) from pk_rem (by omega) (by omega) (by omega), show nI (x / 64) - nI (x / 64) / nI (S.1 1) * nI (S.1 1) = nI (x / 64 % S.1 1) from pk_rem (by omega) (by omega) (by omega)]
  have hx4 : x % 4 < 4 := Nat.mod_lt _ (by decide)
  refine ⟨fun c => ?_, fun c => ?_, fun c d' => ?_⟩
  · have hx := (nI_z (by omega)).mp c
    refine ms_goes hM hN2 (hG.dr hc) (by rw [dr_c S d (by decide)]; omega) (fun I' w1 w2 w3 => go I' (fun q d1 d2 d3 d4 d5 => by rw [w1 q d1 d2 d3 d4 d5, k2 q d2]) (fun j hj => by rw [w2 j hj, k2 287 (by decide)]) ?_)
    unfold tuX
    rw [if_pos hx]
    exact w3
  · have hx := (nI_eq (b := 3) (by omega) (by decide)).mp c
    refine go _ (fun q d1 d2 d3 d4 d5 => by rw [sti_ne _ _ _ d2, k2 q d2]) (fun j hj => by rw [sti_ne _ _ _ (by decide), k2 287 (by decide)]) ?_
    unfold tuX
    rw [if_neg (by omega), if_pos hx, sti_at]
    exact hN2.stC (by decide)
  · have hx0 : ¬ x % 4 = 0 := fun z => c (by rw [z]; rfl)
    have hx3 : ¬ x % 4 = 3 := fun z => d' (by rw [z]; rfl)
    have hv : x / 4 % S.1 0 < S.1 0 := Nat.mod_lt _ (by omega)
    have ht : x / 64 % S.1 1 < S.1 1 := Nat.mod_lt _ (by omega)
    have ht2 : 2 ^ (x / 64 % S.1 1) < 2 ^ S.1 1 := Nat.pow_lt_pow_right (by omega) ht
    have hB := hG.2.2.2.2.2.2.2.1 (x / 4 % S.1 0) (by omega)
    rw [ni_shl1 _ (by omega)]
    refine ⟨nI_ne0 (by omega) (by omega), nI_ne0 (by omega) (by omega), ms_learns hM hB.1 hk.2 ht2 (hN2.2.2.2 _ (by omega)) (by omega) (fun I' w1 w2 w3 => go I' (fun q d1 d2 d3 d4 d5 => by rw [w1 q d2 d3, k2 q d2]) (fun j hj => by rw [w1 287 (by decide) (by decide), k2 287 (by decide)]) ?_)⟩
    unfold tuX
    rw [if_neg hx0, if_neg hx3]
    exact hN2.stK hG.2.2.2.2.2.1.2 (by omega) w2 w3
theorem lp_mdrift {T : Snap → Snap} (hTG : ∀ S, Gs S → Gs (T S)) (hT4 : ∀ S, (T S).1 4 ≤ S.1 4 + 1) {Q : KQ} {n : Nat} (hM : MdQ Q) (hT : ∀ (I5 : KI) S (kk : KI → Prop), RowIs (I5 288) S → Gs S → S.1 4 < 2 ^ 30 → (∀ I', (∀ q, q ≠ 287 → q ≠ 288 → q ≠ 292 → q ≠ 293 → q ≠ 294 → I' q = I5 q) → (∀ j, j ≠ 12 → I' 287 j = I5 287 j) → RowIs (I' 288) (T S) → kk I') → wp_X11_goesOn (I5 288 5) (fun r8 => (((((sti I5 288 5 r8) 288 5) / 65536) - (((sti I5 288 5 r8) 288 5) / 65536) / 4 * 4) = 0 → wp_X11_goes (sti I5 288 5 r8) Q 287 kk) ∧ (((((sti I5 288 5 r8) 288 5) / 65536) - (((sti I5 288 5 r8) 288 5) / 65536) / 4 * 4) = 3 → kk (sti (sti I5 288 5 r8) 288 2 (((((sti I5 288 5 r8) 288 5) / 65536) / 4) - ((((sti I5 288 5 r8) 288 5) / 65536) / 4) / 4 * 4))) ∧ (¬ ((((sti I5 288 5 r8) 288 5) / 65536) - (((sti I5 288 5 r8) 288 5) / 65536) / 4 * 4) = 0 → ¬ ((((sti I5 288 5 r8) 288 5) / 65536) - (((sti I5 288 5 r8) 288 5) / 65536) / 4 * 4) = 3 → (¬ ((sti I5 288 5 r8) 288 0) = 0 ∧ (¬ ((sti I5 288 5 r8) 288 1) = 0 ∧ wp_X11_learns (sti I5 288 5 r8) Q 287 (((((sti I5 288 5 r8) 288 5) / 65536) / 4) - ((((sti I5 288 5 r8) 288 5) / 65536) / 4) / ((sti I5 288 5 r8) 288 0) * ((sti I5 288 5 r8) 288 0)) ((1 : Int32) <<< ((((((sti I5 288 5 r8) 288 5) / 65536) / 64) - ((((sti I5 288 5 r8) 288 5) / 65536) / 64) / ((sti I5 288 5 r8) 288 1) * ((sti I5 288 5 r8) 288 1)) &&& 31)) kk))))) (hn : n < 2 ^ 30) {kk : KI → Prop} (I0 : KI) : ∀ d i I S hs m b, i + d = n → RowIs (I 288) S → Gs S → S.1 4 ≤ b → b + d < 2 ^ 30 → HsB b m hs → I 287 1 = nI m → m ≤ 6 → (∃ a, a < 6 ∧ I 287 2 = nI a ∧ RingIs (I 289) m a hs) → (∀ q, q ≠ 287 → q ≠ 288 → q ≠ 289 → q ≠ 292 → q ≠ 293 → q ≠ 294 → I q = I0 q) → (∀ j, j ≠ 1 → j ≠ 2 → j ≠ 12 → I 287 j = I0 287 j) → (∀ I', RowIs (I' 288) (drfT T d S hs m).1 → Gs (drfT T d S hs m).1 → I' 287 1 = nI (drfT T d S hs m).2.2 → (∃ a, a < 6 ∧ I' 287 2 = nI a ∧ RingIs (I' 289) (drfT T d S hs m).2.2 a (drfT T d S hs m).2.1) → (∀ q, q ≠ 287 → q ≠ 288 → q ≠ 289 → q ≠ 292 → q ≠ 293 → q ≠ 294 → I' q = I0 q) → (∀ j, j ≠ 1 → j ≠ 2 → j ≠ 12 → I' 287 j = I0 287 j) → kk I') → wp_X11_drift_L16 Q 287 (nI n) kk (d + 1) I (nI i) := by
  intro d
  induction d with
  | zero =>
    intro i I S hs m b hi hN hG hb hbb hH h1 hm hR f1 f2 hp
    have : i = n := by omega
    subst this
    unfold wp_X11_drift_L16
    exact br_t (nI_le (Nat.le_refl _) (by omega)) (hp I hN hG h1 hR f1 f2)
  | succ d ih =>
    intro i I S hs m b hi hN hG hb hbb hH h1 hm hR f1 f2 hp
    obtain ⟨a, ha, h2, h3⟩ := hR
    have h4 := hT4 S
    unfold wp_X11_drift_L16
    rw [hM.now, tc0, tc1, tc2, tc5, nI_1]
    refine br_f (nI_ge (by omega) (by omega)) (ms_remembers hM hN hG hH h1 h2 hm ha h3 (fun I5 y1 y2 y3 y4 y5 => ?_))
    have e288 : I5 288 = I 288 := y1 288 (by decide) (by decide)
    refine hT I5 S (fun I' => wp_X11_drift_L16 Q 287 (nI n) kk (d + 1) I' (nI (i + 1))) (by rw [e288]; exact hN) hG (by omega) (fun I' w1 w2 w3 => ?_)
    exact ih (i + 1) I' (T S) (keepH m hs S) (keepN m) (b + 1) (by omega) w3 (hTG S hG) (by omega) (by omega) ((hH.keep hG hb hm).mono (by omega)) (by rw [w2 1 (by decide)]; exact y3) (keepN_le m) ⟨(a + 1) % 6, by omega, by rw [w2 2 (by decide)]; exact y4, by rw [w1 289 (by decide) (by decide) (by decide) (by decide) (by decide)]; exact y5⟩ (fun q d1 d2 d3 d4 d5 d6 => by rw [w1 q d1 d2 d4 d5 d6, y1 q d1 d3]; exact f1 q d1 d2 d3 d4 d5 d6) (fun j d1 d2 d3 => by rw [w2 j d3, y2 j d1 d2]; exact f2 j d1 d2 d3) hp
set_option maxHeartbeats 1000000 in
theorem op_drift {I : KI} {J : KJ} {Q : KQ} {b : Nat} {x1 : Int32} {post : Int32 → KI → KQ → Prop} (h : Rel I J Q b) (hb31 : b < 2 ^ 29) (hp : ∀ r I4 Q4, (∀ p2 : Int32 → KI → Prop, (∀ I5, Rel I5 J Q4 (b + 100) → p2 r I5) → wp_X11_drift I4 Q4 287 x1 p2) → post r I4 Q4) : wp_X10_drift I Q 0 x1 post := by
  have hmo : Rel I J Q (b + 100) := h.mono (by omega)
  obtain ⟨hR, π, hP, S, hs, m, hC⟩ := id h
  obtain ⟨c1, c2, c3, c4, ⟨a, ha, c5, c6⟩, hG, hb, hH⟩ := hC
  obtain ⟨⟨a0, a1, a2, a3, a4, a5, -⟩, ⟨q1, q2, q3, q4⟩, -, -, hM⟩ := id hR.1
  obtain ⟨T, hTe⟩ : ∃ T, T = tuS := ⟨_, rfl⟩
  have hTG : ∀ S, Gs S → Gs (T S) := fun S hS => by rw [hTe]; exact hS.tu
  have hT4 : ∀ S, (T S).1 4 ≤ S.1 4 + 1 := fun S => by rw [hTe]; exact tu_4 S
  unfold wp_X10_drift
  rcases inCase x1 1 40 with ⟨k, hk1, hk2, rfl⟩ | hno
  · refine ⟨fun c => absurd c (nI_nlt (b := 1) hk1 (by omega)), fun _ => ⟨fun _ => ⟨k + 1, ?_⟩, fun c => absurd (nI_le (b := 40) hk2 (by decide)) c⟩⟩
    refine lp_drift hTG hT4 (fun I Q S post a b c d e => by rw [hTe] at e; exact sp_turn a b c d e) (by omega) I Q hR.1 k 0 I Q π S hs m b (by omega) (fun _ _ => rfl) hP c1 c2 hG hb (by omega) (fun _ _ _ _ _ => rfl) (fun I' Q' π' w1 w2 w3 w4 w5 w6 => ?_)
    have hQ' := hR.1.fr w1
    obtain ⟨⟨a0', -⟩, ⟨q1', -⟩, -, -, hM'⟩ := id hQ'
    rw [a0']
    refine sp_ranks q1' w3 w5 (hp _ _ _ (fun p2 h2 => ?_))
    have hdr := HsB.dr hTG hT4 k b S hs m hG hb hH c2.2.1
    have e288 : I' 288 = I 288 := w6 288 (by omega) (by omega) (by omega) (by omega)
    have e287 : I' 287 = I 287 := w6 287 (by omega) (by omega) (by omega) (by omega)
    unfold wp_X11_drift
    refine ms_in1 (lo := 1) (hi := 40) hk1 hk2 (by decide) ⟨fun _ => ⟨k + 1, ?_⟩, fun c => absurd c (by decide)⟩
    refine lp_mdrift hTG hT4 hM' (fun I5 S kk a b c d => by rw [hTe] at d; exact ms_turn hM' a b c d) (by omega) I' k 0 I' S hs m b (by omega) (by rw [e288]; exact c3) hG hb (by omega) hH (by rw [e287]; exact c4) c2.2.1 ⟨a, ha, by rw [e287]; exact c5, by rw [w6 289 (by omega) (by omega) (by omega) (by omega)]; exact c6⟩ (fun _ _ _ _ _ _ _ => rfl) (fun _ _ _ _ => rfl) (fun I5 z1 z2 z3 z4 z5 z6 => ms_ranks hM' z1 z2 (h2 I5 ?_))
    obtain ⟨a', ha', t1, t2⟩ := z4
    refine ⟨hR.fr (by omega) w1 ⟨fun q hq => ?_, ?_, fun j hj => ?_⟩, π', w2, _, _, _, RelC.mk2 (w3.fr (fun q d1 d2 => z5 q (by omega) (by omega) (by omega) (by omega) (by omega) (by omega))) (w4.fr w2 (fun q d1 d2 => z5 q (by omega) (by omega) (by omega) (by omega) (by omega) (by omega))) z1 z3 ha' t1 t2 z2 (by have := hdr.2; omega) (hdr.1.mono (by omega))⟩
    · rw [z5 q (by omega) (by omega) (by omega) (by omega) (by omega) (by omega), w6 q (by omega) (by omega) (by omega) (by omega)]
    · rw [z5 274 (by omega) (by omega) (by omega) (by omega) (by omega) (by omega), w6 274 (by omega) (by omega) (by omega) (by omega)]
    · rw [z6 j (by omega) (by omega) (by omega), e287]
  · have hq : ∀ p2 : Int32 → KI → Prop, (∀ I5, Rel I5 J Q (b + 100) → p2 (-1) I5) → wp_X11_drift I Q 287 x1 p2 := fun p2 h2 => by
      unfold wp_X11_drift
      exact ms_in0 (lo := 1) (hi := 40) hno (by decide) (by decide) ⟨fun c => absurd rfl c, fun _ => h2 I hmo⟩
    exact ⟨fun _ => hp _ _ _ hq, fun c1 => ⟨fun c2 => absurd (rng_no hno (by decide) (by decide) c1 c2) id, fun _ => hp _ _ _ hq⟩⟩
theorem op_image {I : KI} {J : KJ} {Q : KQ} {b : Nat} {post : Int32 → KI → Prop} (h : Rel I J Q b) (hp : ∀ r I4, (∀ p2 : Int32 → KI → Prop, (∀ I5, Rel I5 J Q b → p2 r I5) → wp_X11_image I4 Q 287 p2) → post r I4) : wp_X10_image I Q 0 post := by
  obtain ⟨⟨hQ, ⟨π2, hP2, hI2⟩, hT, hSh⟩, π, hP, S, hs, m, hC⟩ := id h
  obtain ⟨c1, c2, c3, c4, ⟨a, ha, c5, c6⟩, hG, hb, hH⟩ := id hC
  obtain ⟨⟨a0, a1, a2, a3, -⟩, ⟨q1, q2, -⟩, -, -, hM⟩ := id hQ
  have h8 := hG.2.2.2.2.2.1.2
  have hm6 := c2.2.1
  unfold wp_X10_image
  rw [a0, a1, a2, a3]
  refine sp_take q2 q1 (by omega) c1 h8 (fun I1 w1 w2 => sp_ptake hP2 hP (c2.fr hP (fun k d1 d2 => w1 k (by omega))) (fun i hi => (hH i hi).1.2.2.2.2.2.1.2) (by omega) (fun I2 z1 z2 => hp _ _ (fun p2 h2 => ?_)))
  have f1 : ∀ q, q ≠ 0 → (q < 122 ∨ 243 ≤ q) → sti I2 0 11 1 q = I q := fun q d0 d1 => by rw [sti_ne _ _ _ d0, z1 q (by omega), w1 q (by omega)]
  unfold wp_X11_image
  rw [hM.now, hM.undos, hM.image]
  refine ms_copies (i := 0) (j := 0) (n := 69) (by decide) (by omega) (by omega) (by decide) (by decide) (ms_copies (i := 0) (j := 69) (n := 414) (by decide) (by omega) (by omega) (by decide) (by decide) ?_)
  obtain ⟨I6, hI6⟩ : ∃ I6, I6 = cpi (cpi (sti (sti I2 0 11 1) 287 4 1) 288 290 0 0 69) 289 290 0 69 414 := ⟨_, rfl⟩
  rw [← hI6]
  have g1 : ∀ q, q ≠ 287 → q ≠ 290 → I6 q = sti I2 0 11 1 q := fun q d1 d2 => by rw [hI6, cpi_ne _ _ _ _ _ _ d2, cpi_ne _ _ _ _ _ _ d2, sti_ne _ _ _ d1]
  have g2 : ∀ j, j ≠ 4 → I6 287 j = I 287 j := fun j hj => by rw [hI6, cpi_ne _ _ _ _ _ _ (by decide), cpi_ne _ _ _ _ _ _ (by decide), sti_at, pk_un hj, f1 287 (by decide) (by omega)]
  have g3 : ∀ t, t < 69 → I6 290 t = I 288 t := fun t ht => by
    rw [hI6, cpi_out _ _ _ _ _ _ (by omega), cpi_in _ _ _ _ _ _ (by omega) (by omega), sti_ne _ _ _ (by decide), f1 288 (by decide) (by omega)]
    congr 1; omega
  have g4 : ∀ t, t < 414 → I6 290 (69 + t) = I 289 t := fun t ht => by
    rw [hI6, cpi_in _ _ _ _ _ _ (by omega) (by omega), cpi_ne _ _ _ _ _ _ (by decide), sti_ne _ _ _ (by decide), f1 289 (by decide) (by omega)]
    congr 1; omega
  have g5 : I6 287 4 = 1 := by rw [hI6, cpi_ne _ _ _ _ _ _ (by decide), cpi_ne _ _ _ _ _ _ (by decide), sti_at, pk_us]
  have e1 : sti I6 287 5 (I6 287 1) 287 2 = I 287 2 := by rw [sti_at, pk_un (by decide), g2 2 (by decide)]
  rw [e1, g2 1 (by decide)]
  have k1 : ∀ q, q ≠ 287 → sti (sti I6 287 5 (I 287 1)) 287 6 (I 287 2) q = I6 q := fun q hq => by rw [sti_ne _ _ _ hq, sti_ne _ _ _ hq]
  have k2 : ∀ j, j ≠ 5 → j ≠ 6 → sti (sti I6 287 5 (I 287 1)) 287 6 (I 287 2) 287 j = I6 287 j := fun j d1 d2 => by rw [sti_at, pk_un d2, sti_at, pk_un d1]
  have k3 : ∀ q, q ≠ 0 → q ≠ 287 → q ≠ 290 → (q < 122 ∨ 243 ≤ q) → sti (sti I6 287 5 (I 287 1)) 287 6 (I 287 2) q = I q := fun q d0 d1 d2 d3 => by rw [k1 q d1, g1 q d1 d2, f1 q d0 d3]
  obtain ⟨tm, t1, t2, t3, t4⟩ := hT
  refine h2 _ ⟨⟨hQ, ⟨π2, hP2, Or.inr ⟨?_, ?_, S, hs, m, ?_, ?_, ?_, ?_, ⟨a, ha, ?_, ?_⟩, hG, hb, hH⟩⟩, ⟨tm, t1, ?_, ?_, fun j hj => ?_⟩, fun s hs' => ?_⟩, π, hP, S, hs, m, RelC.mk2 (c1.fr (fun q d1 d2 => k3 q (by omega) (by omega) (by omega) (by omega))) (c2.fr hP (fun q d1 d2 => k3 q (by omega) (by omega) (by omega) (by omega))) ?_ ?_ ha ?_ ?_ hG hb hH⟩
  · rw [k1 0 (by decide), g1 0 (by decide) (by decide), sti_at, pk_us]
  · rw [k2 4 (by decide) (by decide), g5]
  · refine (w2.fr (I' := I2) (fun q d1 d2 => z1 q (by omega))).fr (fun q d1 d2 => ?_)
    rw [k1 q (by omega), g1 q (by omega) (by omega), sti_ne _ _ _ (by omega)]
  · exact z2.fr hP2 (fun q d1 d2 => by rw [k1 q (by omega), g1 q (by omega) (by omega), sti_ne _ _ _ (by omega)])
  · rw [k1 290 (by decide)]
    exact c3.congr h8 g3
  · rw [sti_at, pk_un (by decide), sti_at, pk_us]; exact c4
  · rw [sti_at, pk_us]; exact c5
  · intro i hi
    rw [k1 290 (by decide)]
    have hlt : (a + 6 - m + i) % 6 < 6 := Nat.mod_lt _ (by decide)
    exact (c6 i hi).congr (hH i hi).1.2.2.2.2.2.1.2 (fun t ht => g4 _ (by omega))
  · rw [k3 274 (by decide) (by decide) (by decide) (by omega)]; exact t2
  · rw [k2 20 (by decide) (by decide), g2 20 (by decide)]; exact t3
  · rw [k3 275 (by decide) (by decide) (by decide) (by omega), k3 299 (by decide) (by decide) (by decide) (by omega)]; exact t4 j hj
  · rw [k3 (279 + 2 * s) (by omega) (by omega) (by omega) (by omega), k3 301 (by decide) (by decide) (by decide) (by omega), k3 302 (by decide) (by decide) (by decide) (by omega)]; exact hSh s hs'
  · rw [k3 288 (by decide) (by decide) (by decide) (by omega)]; exact c3
  · rw [k2 1 (by decide) (by decide), g2 1 (by decide)]; exact c4
  · rw [k2 2 (by decide) (by decide), g2 2 (by decide)]; exact c5
  · rw [k3 289 (by decide) (by decide) (by decide) (by omega)]; exact c6
theorem op_restore {I : KI} {J : KJ} {Q : KQ} {b : Nat} {post : Int32 → KI → Prop} (h : Rel I J Q b) (hp : ∀ r I4, (∀ p2 : Int32 → KI → Prop, (∀ I5, Rel I5 J Q b → p2 r I5) → wp_X11_restore I4 Q 287 p2) → post r I4) : wp_X10_restore I Q 0 post := by
  obtain ⟨⟨hQ, ⟨π2, hP2, hI2⟩, hT, hSh⟩, π, hP, S0, hs0, m0, hC⟩ := id h
  obtain ⟨d1, d2, -⟩ := id hC
  obtain ⟨⟨a0, a1, a2, a3, -⟩, ⟨q1, q2, -⟩, -, -, hM⟩ := id hQ
  unfold wp_X10_restore
  rw [a0, a1, a2, a3]
  rcases hI2 with ⟨i1, i2⟩ | ⟨i1, i2, S, hs, m, c1, c2, c3, c4, ⟨a, ha, c5, c6⟩, hG, hb, hH⟩
  · rw [i1]
    refine ⟨fun c => absurd rfl c, fun _ => hp _ _ (fun p2 h2 => ?_)⟩
    unfold wp_X11_restore
    rw [i2]
    exact ⟨fun c => absurd rfl c, fun _ => h2 I h⟩
  · rw [i1]
    have h8 := hG.2.2.2.2.2.1.2
    refine ⟨fun _ => sp_take q1 q2 (by omega) c1 h8 (fun I1 w1 w2 => sp_ptake hP hP2 (c2.fr hP2 (fun k e1 e2 => w1 k (by omega))) (fun i hi => (hH i hi).1.2.2.2.2.2.1.2) (by omega) (fun I2 z1 z2 => hp _ _ (fun p2 h2 => ?_))), fun c => absurd c (by decide)⟩
    have f1 : ∀ q, (q < 1 ∨ 122 ≤ q) → I2 q = I q := fun q e1 => by rw [z1 q (by omega), w1 q (by omega)]
    unfold wp_X11_restore
    rw [hM.now, hM.undos, hM.image, f1 287 (by omega), i2]
    refine ⟨fun _ => ms_copies (i := 0) (j := 0) (n := 69) (by decide) (by omega) (by omega) (by decide) (by decide) (ms_copies (i := 69) (j := 0) (n := 414) (by decide) (by omega) (by omega) (by decide) (by decide) ?_), fun c => absurd c (by decide)⟩
    obtain ⟨I6, hI6⟩ : ∃ I6, I6 = cpi (cpi I2 290 288 0 0 69) 290 289 69 0 414 := ⟨_, rfl⟩
    rw [← hI6]
    have g1 : ∀ q, q ≠ 288 → q ≠ 289 → I6 q = I2 q := fun q e1 e2 => by rw [hI6, cpi_ne _ _ _ _ _ _ e2, cpi_ne _ _ _ _ _ _ e1]
    have g3 : ∀ t, t < 69 → I6 288 t = I 290 t := fun t ht => by
      rw [hI6, cpi_ne _ _ _ _ _ _ (by decide), cpi_in _ _ _ _ _ _ (by omega) (by omega), f1 290 (by omega)]
      congr 1; omega
    have g4 : ∀ t, t < 414 → I6 289 t = I 290 (69 + t) := fun t ht => by
      rw [hI6, cpi_in _ _ _ _ _ _ (by omega) (by omega), cpi_ne _ _ _ _ _ _ (by decide), f1 290 (by omega)]
      congr 1
    have g2 : I6 287 = I 287 := by rw [g1 287 (by decide) (by decide), f1 287 (by omega)]
    have e1 : sti I6 287 1 (I6 287 5) 287 6 = I 287 6 := by rw [sti_at, pk_un (by decide), g2]
    rw [e1, g2]
    have k1 : ∀ q, q ≠ 287 → sti (sti I6 287 1 (I 287 5)) 287 2 (I 287 6) q = I6 q := fun q hq => by rw [sti_ne _ _ _ hq, sti_ne _ _ _ hq]
    have k2 : ∀ j, j ≠ 1 → j ≠ 2 → sti (sti I6 287 1 (I 287 5)) 287 2 (I 287 6) 287 j = I 287 j := fun j e1 e2 => by rw [sti_at, pk_un e2, sti_at, pk_un e1, g2]
    have k3 : ∀ q, q ≠ 287 → q ≠ 288 → q ≠ 289 → sti (sti I6 287 1 (I 287 5)) 287 2 (I 287 6) q = I2 q := fun q e1 e2 e3 => by rw [k1 q e1, g1 q e2 e3]
    refine h2 _ ⟨(show RelR I J Q b from h.1).fr (Nat.le_refl b) (fun _ _ => rfl) ⟨fun q hq => ?_, ?_, fun j hj => k2 j (by omega) (by omega)⟩, π, hP, S, hs, m, RelC.mk2 ?_ ?_ ?_ ?_ ha ?_ ?_ hG hb hH⟩
    · rw [k3 q (by omega) (by omega) (by omega), f1 q (by omega)]
    · rw [k3 274 (by decide) (by decide) (by decide), f1 274 (by omega)]
    · refine (w2.fr (I' := I2) (fun q e1 e2 => z1 q (by omega))).fr (fun q e1 e2 => k3 q (by omega) (by omega) (by omega))
    · exact z2.fr hP (fun q e1 e2 => k3 q (by omega) (by omega) (by omega))
    · rw [k1 288 (by decide)]; exact c3.congr h8 g3
    · rw [sti_at, pk_un (by decide), sti_at, pk_us]; exact c4
    · rw [sti_at, pk_us]; exact c5
    · rw [k1 289 (by decide)]
      intro i hi
      have hlt : (a + 6 - m + i) % 6 < 6 := Nat.mod_lt _ (by decide)
      exact (c6 i hi).congr (hH i hi).1.2.2.2.2.2.1.2 (fun t ht => g4 _ (by omega))
