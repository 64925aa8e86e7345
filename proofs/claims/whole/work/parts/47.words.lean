/-! PURE, 10: the reference's row: words of bits -/
theorem tc0 : (0 : Int32).toNatClampNeg = 0 := rfl
theorem tc1 : (1 : Int32).toNatClampNeg = 1 := rfl
theorem tc2 : (2 : Int32).toNatClampNeg = 2 := rfl
theorem tc3 : (3 : Int32).toNatClampNeg = 3 := rfl
theorem tc4 : (4 : Int32).toNatClampNeg = 4 := rfl
theorem tc5 : (5 : Int32).toNatClampNeg = 5 := rfl
theorem tc6 : (6 : Int32).toNatClampNeg = 6 := rfl
theorem tc7 : (7 : Int32).toNatClampNeg = 7 := rfl
def wrd (P : Nat → Bool) (o : Nat) : Nat → Nat
  | 0 => 0
  | i + 1 => wrd P o i ||| (if P (o + i) then 2 ^ i else 0)
theorem wrd_bit (P : Nat → Bool) (o : Nat) : ∀ i j, (wrd P o i).testBit j = (decide (j < i) && P (o + j)) := by
  intro i
  induction i with
  | zero => intro j; simp [wrd]
  | succ i ih =>
    intro j
    simp only [wrd, Nat.testBit_or, ih]
    by_cases hij : j = i
    · subst hij
      have h1 : decide (j < j) = false := by simp
      have h2 : decide (j < j + 1) = true := by simp
      rw [h1, h2]
      cases P (o + j) <;> simp
    · have h1 : decide (j < i + 1) = decide (j < i) := decide_eq_decide.mpr ⟨fun q => by omega, fun q => by omega⟩
      rw [h1]
      have h2 : (if P (o + i) then 2 ^ i else 0 : Nat).testBit j = false := by
        split
        · rw [Nat.testBit_two_pow]; exact decide_eq_false (fun q => hij q.symm)
        · exact Nat.zero_testBit j
      rw [h2, Bool.or_false]
theorem wrd_lt (P : Nat → Bool) (o i : Nat) : wrd P o i < 2 ^ i := by
  apply Nat.lt_pow_two_of_testBit
  intro j hj
  rw [wrd_bit, decide_eq_false (by omega), Bool.false_and]
theorem wrd_congr {P P' : Nat → Bool} {o i : Nat} (h : ∀ j, j < i → P (o + j) = P' (o + j)) : wrd P o i = wrd P' o i := by
  apply Nat.eq_of_testBit_eq
  intro j
  rw [wrd_bit, wrd_bit]
  by_cases hj : j < i
  · rw [h j hj]
  · rw [decide_eq_false hj, Bool.false_and, Bool.false_and]
theorem wrd_upd {P P' : Nat → Bool} {i : Nat} {c : Bool} (h : ∀ y, P' y = (P y || (decide (y = i) && c))) (w : Nat) : wrd P' (32 * w) 32 = if i / 32 = w then wrd P (32 * w) 32 ||| (if c then 2 ^ (i % 32) else 0) else wrd P (32 * w) 32 := by
  by_cases hw : i / 32 = w
  · rw [if_pos hw]
    apply Nat.eq_of_testBit_eq
    intro j
    rw [Nat.testBit_or, wrd_bit, wrd_bit, h]
    have h2 : (if c then 2 ^ (i % 32) else 0 : Nat).testBit j = (decide (j < 32) && (decide (32 * w + j = i) && c)) := by
      cases c with
      | true =>
        rw [if_pos rfl, Nat.testBit_two_pow, Bool.and_true, ← Bool.decide_and]
        exact decide_eq_decide.mpr ⟨fun q => by omega, fun q => by omega⟩
      | false => simp
    rw [h2]
    cases decide (j < 32) <;> simp
  · rw [if_neg hw]
    refine wrd_congr (fun j hj => ?_)
    rw [h, decide_eq_false (by omega), Bool.false_and, Bool.or_false]
theorem ni_bit {a j : Nat} (ha : a < 2 ^ 32) (hj : j < 32) : ((nI a >>> (nI j &&& 31)) &&& (1 : Int32)) = bI (a.testBit j) := by
  cases hb : a.testBit j with
  | true => exact (ni_has ha hj).mpr hb
  | false =>
    have h := pk_and (nI a >>> (nI j &&& 31)) (m := 1) 1 (by decide)
    have h2 := (ni_hasN ha hj).mpr hb
    rcases Nat.mod_two_eq_zero_or_one (nI a >>> (nI j &&& 31)).toBitVec.toNat with q | q
    · rw [show 2 ^ 1 = 2 from rfl, q] at h
      exact h
    · rw [show 2 ^ 1 = 2 from rfl, q] at h
      exact absurd h h2
theorem bI_n (b : Bool) : bI b = nI (if b then 1 else 0) := by cases b <;> rfl
theorem ms_has {a j : Nat} {post : Int32 → Prop} (ha : a < 2 ^ 32) (hj : j < 32) (hp : post (bI (a.testBit j))) : wp_X11_has (nI a) (nI j) post := by
  unfold wp_X11_has
  refine ⟨fun c => ?_, fun c => ?_⟩
  · rw [(ni_hasN ha hj).mp c] at hp
    exact hp
  · rw [(ni_has ha hj).mp c] at hp
    exact hp
/-- how many from o on -/
def clT (P : Nat → Bool) (o : Nat) : Nat → Nat
  | 0 => 0
  | i + 1 => clT P o i + if P (o + i) then 1 else 0
theorem clT_add (P : Nat → Bool) (o i : Nat) : ∀ j, clT P o (i + j) = clT P o i + clT P (o + i) j := by
  intro j
  induction j with
  | zero => rfl
  | succ j ih =>
    show clT P o (i + j) + (if P (o + (i + j)) then 1 else 0) = clT P o i + (clT P (o + i) j + if P (o + i + j) then 1 else 0)
    rw [ih, Nat.add_assoc o i j]
    omega
theorem clT_congr {P P' : Nat → Bool} {o o' : Nat} : ∀ i, (∀ j, j < i → P (o + j) = P' (o' + j)) → clT P o i = clT P' o' i := by
  intro i
  induction i with
  | zero => intro _; rfl
  | succ i ih =>
    intro h
    simp only [clT]
    rw [ih (fun j hj => h j (by omega)), h i (by omega)]
theorem clT_le (P : Nat → Bool) (o : Nat) : ∀ i, clT P o i ≤ i := by
  intro i
  induction i with
  | zero => exact Nat.le_refl 0
  | succ i ih => simp only [clT]; split <;> omega
theorem cnt_cl (P : Nat → Bool) : ∀ i o, cntT P i o = clT P o (2 ^ i) := by
  intro i
  induction i with
  | zero => intro o; simp [cntT, clT]
  | succ i ih =>
    intro o
    rw [show 2 ^ (i + 1) = 2 ^ i + 2 ^ i by rw [Nat.pow_succ]; omega, clT_add, cntT, ih, ih]
theorem lp_ones {a : Nat} {post : Int32 → Prop} (ha : a < 2 ^ 32) (hp : post (nI (clT (fun j => a.testBit j) 0 32))) : ∀ d i, i + d = 32 → wp_X11_ones_L4 (nI a) post (d + 1) (nI (clT (fun j => a.testBit j) 0 i)) (nI i) := by
  intro d
  induction d with
  | zero =>
    intro i hi
    have : i = 32 := by omega
    subst this
    unfold wp_X11_ones_L4
    exact br_t (nI_le (a := 32) (Nat.le_refl 32) (by decide)) hp
  | succ d ih =>
    intro i hi
    have ih := ih (i + 1) (by omega)
    unfold wp_X11_ones_L4
    refine br_f (nI_ge (b := 32) (by omega) (by decide)) ?_
    rw [ni_bit ha (by omega), bI_n, nI_add, nI_1]
    have e : clT (fun j => a.testBit j) 0 (i + 1) = clT (fun j => a.testBit j) 0 i + if a.testBit i = true then 1 else 0 := by
      simp only [clT, Nat.zero_add]
    rw [← e]
    exact ih
theorem ms_ones {a : Nat} {post : Int32 → Prop} (ha : a < 2 ^ 32) (hp : post (nI (clT (fun j => a.testBit j) 0 32))) : wp_X11_ones (nI a) post := ⟨33, lp_ones ha hp 32 0 rfl⟩
/-! where the reference's rows stand -/
def mqN : Nat → Nat
  | 0 => 288 | 3 => 289 | 7 => 290 | 8 => 291 | 9 => 292 | 10 => 293 | 11 => 294 | 13 => 295 | 14 => 296 | 15 => 297 | 16 => 298 | 19 => 299 | 23 => 300 | 24 => 301 | 25 => 302 | 26 => 303 | _ => 0
def MdQ (Q : KQ) : Prop := ∀ j, j ∈ [0, 3, 7, 8, 9, 10, 11, 13, 14, 15, 16, 19, 23, 24, 25, 26] → rq Q 287 j = mqN j
theorem MdQ.now {Q : KQ} (h : MdQ Q) : rq Q 287 0 = 288 := h 0 (by decide)
theorem MdQ.undos {Q : KQ} (h : MdQ Q) : rq Q 287 3 = 289 := h 3 (by decide)
theorem MdQ.image {Q : KQ} (h : MdQ Q) : rq Q 287 7 = 290 := h 7 (by decide)
theorem MdQ.mind {Q : KQ} (h : MdQ Q) : rq Q 287 8 = 291 := h 8 (by decide)
theorem MdQ.old {Q : KQ} (h : MdQ Q) : rq Q 287 9 = 292 := h 9 (by decide)
theorem MdQ.sendMany {Q : KQ} (h : MdQ Q) : rq Q 287 10 = 293 := h 10 (by decide)
theorem MdQ.send {Q : KQ} (h : MdQ Q) : rq Q 287 11 = 294 := h 11 (by decide)
theorem MdQ.one {Q : KQ} (h : MdQ Q) : rq Q 287 13 = 295 := h 13 (by decide)
theorem MdQ.grown {Q : KQ} (h : MdQ Q) : rq Q 287 14 = 296 := h 14 (by decide)
theorem MdQ.view {Q : KQ} (h : MdQ Q) : rq Q 287 15 = 297 := h 15 (by decide)
theorem MdQ.viewThen {Q : KQ} (h : MdQ Q) : rq Q 287 16 = 298 := h 16 (by decide)
theorem MdQ.tape {Q : KQ} (h : MdQ Q) : rq Q 287 19 = 299 := h 19 (by decide)
theorem MdQ.newPlan {Q : KQ} (h : MdQ Q) : rq Q 287 23 = 300 := h 23 (by decide)
theorem MdQ.lane {Q : KQ} (h : MdQ Q) : rq Q 287 24 = 301 := h 24 (by decide)
theorem MdQ.many {Q : KQ} (h : MdQ Q) : rq Q 287 25 = 302 := h 25 (by decide)
theorem MdQ.items {Q : KQ} (h : MdQ Q) : rq Q 287 26 = 303 := h 26 (by decide)
def kn (f : Nat → Nat) (x : Nat) : Bool := decide (red f x = 0)
/-- what a node knows, as words of a row -/
def KnIs (g : Nat → Int32) (v : Nat) (P : Nat → Bool) : Prop := ∀ w, w < 8 → g (21 + 8 * v + w) = nI (wrd P (32 * w) 32)
def RowIs (g : Nat → Int32) (S : Snap) : Prop := (∀ i, i < 7 → g i = nI (S.1 i)) ∧ (∀ i, i < S.1 6 → g (7 + i) = nI (S.2.1 i)) ∧ (∀ v, v < 6 → g (15 + v) = nI (S.2.2.2 v)) ∧ ∀ v, v < 6 → KnIs g v (kn (S.2.2.1 v))
theorem KnIs.congr {g : Nat → Int32} {v : Nat} {P P' : Nat → Bool} (h : KnIs g v P) (he : ∀ x, x < 256 → P x = P' x) : KnIs g v P' := by
  intro w hw
  rw [h w hw, wrd_congr (fun j hj => he _ (by omega))]
theorem m_at (v w : Nat) : ((21 : Int32) + (8 : Int32) * nI v) + nI w = nI (21 + 8 * v + w) := by
  rw [show (8 : Int32) * nI v = nI (8 * v) from pk_mul 8 v, show (21 : Int32) + nI (8 * v) = nI (21 + 8 * v) from nI_add 21 (8 * v), nI_add]
theorem m_div {x : Nat} (hx : x < 2 ^ 31) : nI x / (32 : Int32) = nI (x / 32) := pk_div hx (by decide) (by decide)
theorem m_rem {x : Nat} (hx : x < 2 ^ 31) : nI x - nI x / (32 : Int32) * (32 : Int32) = nI (x % 32) := pk_rem hx (by decide) (by decide)
theorem ms_known {I : KI} {Q : KQ} {v x : Nat} {P : Nat → Bool} {post : Int32 → Prop} (hM : MdQ Q) (hK : KnIs (I 288) v P) (hv : v < 6) (hx : x < 256) (hp : post (bI (P x))) : wp_X11_isKnown I Q 287 (nI v) (nI x) post := by
  unfold wp_X11_isKnown
  rw [hM.now, m_rem (by omega), m_div (by omega), m_at, nI_clamp (by omega), hK (x / 32) (by omega)]
  refine ⟨vp_in_nI (by omega) (by decide), ms_has (wrd_lt _ _ _) (by omega) ⟨bI_01 _, ?_⟩⟩
  rw [wrd_bit, decide_eq_true (by omega), Bool.true_and, Nat.div_add_mod]
  exact hp
theorem lp_mrank {I : KI} {Q : KQ} {v : Nat} {P : Nat → Bool} {kk : Int32 → Prop} (hM : MdQ Q) (hK : KnIs (I 288) v P) (hv : v < 6) (hp : kk (nI (clT P 0 256))) : ∀ d i, i + d = 8 → wp_X11_rank_L4 I Q 287 (nI v) kk (d + 1) (nI (clT P 0 (32 * i))) (nI i) := by
  intro d
  induction d with
  | zero =>
    intro i hi
    have : i = 8 := by omega
    subst this
    unfold wp_X11_rank_L4
    exact br_t (nI_le (a := 8) (Nat.le_refl 8) (by decide)) hp
  | succ d ih =>
    intro i hi
    have ih := ih (i + 1) (by omega)
    unfold wp_X11_rank_L4
    rw [hM.now, m_at, nI_clamp (by omega), hK i (by omega)]
    refine br_f (nI_ge (b := 8) (by omega) (by decide)) ⟨vp_in_nI (by omega) (by decide), ms_ones (wrd_lt _ _ _) ?_⟩
    rw [nI_add, nI_1]
    have e : clT P 0 (32 * (i + 1)) = clT P 0 (32 * i) + clT (fun j => (wrd P (32 * i) 32).testBit j) 0 32 := by
      rw [show 32 * (i + 1) = 32 * i + 32 by omega, clT_add]
      congr 1
      refine clT_congr 32 (fun j hj => ?_)
      rw [Nat.zero_add, Nat.zero_add, wrd_bit, decide_eq_true hj, Bool.true_and]
    rw [← e]
    exact ih
theorem lp_mrank2 {r : Nat} {post : Int32 → Prop} (hr : r ≤ 8) (hp : post (nI r)) : ∀ d i, i + d = r → wp_X11_rank_L38 (nI (2 ^ r)) post (d + 1) (nI i) := by
  have h2 : 2 ^ r ≤ 2 ^ 8 := Nat.pow_le_pow_right (by omega) hr
  intro d
  induction d with
  | zero =>
    intro i hi
    have : i = r := by omega
    subst this
    unfold wp_X11_rank_L38
    rw [ni_shl1 i (by omega)]
    exact br_t (nI_le (Nat.le_refl _) (by omega)) hp
  | succ d ih =>
    intro i hi
    unfold wp_X11_rank_L38
    rw [ni_shl1 i (by omega), nI_1]
    exact br_f (nI_ge (Nat.pow_lt_pow_right (by omega) (by omega)) (by omega)) (ih (i + 1) (by omega))
theorem ms_rank {I : KI} {Q : KQ} {v : Nat} {f : Nat → Nat} {post : Int32 → Prop} (hM : MdQ Q) (hK : KnIs (I 288) v (kn f)) (hv : v < 6) (hc : cntS f = 2 ^ rk f) (h8 : rk f ≤ 8) (hp : post (nI (rk f))) : wp_X11_rank I Q 287 (nI v) post := by
  refine ⟨9, lp_mrank hM hK hv ⟨rk f + 1, ?_⟩ 8 0 rfl⟩
  have e : clT (kn f) 0 256 = 2 ^ rk f := by
    rw [← hc]
    exact (cnt_cl (kn f) 8 0).symm
  rw [e]
  exact lp_mrank2 h8 hp (rk f) 0 (by omega)
/-! learning -/
theorem nar_bI (b : Bool) : vp_nar .boolean (bI b) = bI b := by cases b <;> rfl
theorem lp_learn1 {Q : KQ} {v : Nat} {P : Nat → Bool} {kk : KI → Prop} (I0 : KI) (hM : MdQ Q) (hK : KnIs (I0 288) v P) (hv : v < 6) (hp : ∀ I, (∀ q, q ≠ 292 → I q = I0 q) → (∀ x, x < 256 → I 292 x = bI (P x)) → kk I) : ∀ d i I, i + d = 256 → (∀ q, q ≠ 292 → I q = I0 q) → (∀ x, x < i → I 292 x = bI (P x)) → wp_X11_learns_L2 Q 287 (nI v) kk (d + 1) I (nI i) := by
  intro d
  induction d with
  | zero =>
    intro i I hi h1 h2
    have : i = 256 := by omega
    subst this
    unfold wp_X11_learns_L2
    exact br_t (nI_le (a := 256) (Nat.le_refl 256) (by decide)) (hp I h1 h2)
  | succ d ih =>
    intro i I hi h1 h2
    unfold wp_X11_learns_L2
    refine br_f (nI_ge (b := 256) (by omega) (by decide)) (ms_known hM (by rw [h1 288 (by decide)]; exact hK) hv (by omega) ⟨vp_in_nI (by omega) (by decide), ?_⟩)
    rw [hM.old, nI_clamp (by omega), nar_bI, nI_1]
    refine ih (i + 1) _ (by omega) (fun q hq => by rw [sti_ne _ _ _ hq]; exact h1 q hq) (fun x hx => ?_)
    rw [sti_at]
    by_cases hxi : x = i
    · subst hxi; rw [pk_us]
    · rw [pk_un hxi]; exact h2 x (by omega)
theorem lp_learn2 {Q : KQ} {v s : Nat} {P : Nat → Bool} {post : KI → Prop} (I0 : KI) (hM : MdQ Q) (hO : ∀ x, x < 256 → I0 292 x = bI (P x)) (hv : v < 6) (hs : s < 256) (hp : ∀ I, (∀ q, q ≠ 288 → I q = I0 q) → (∀ j, (j < 21 + 8 * v ∨ 29 + 8 * v ≤ j) → I 288 j = I0 288 j) → KnIs (I 288) v (fun y => P y || P (y ^^^ s)) → post I) : ∀ d i I, i + d = 256 → (∀ q, q ≠ 288 → I q = I0 q) → (∀ j, (j < 21 + 8 * v ∨ 29 + 8 * v ≤ j) → I 288 j = I0 288 j) → KnIs (I 288) v (fun y => P y || (decide (y < i) && P (y ^^^ s))) → wp_X11_learns_L39 Q 287 (nI v) (nI s) post (d + 1) I (nI i) := by
  intro d
  induction d with
  | zero =>
    intro i I hi h1 h2 h3
    have : i = 256 := by omega
    subst this
    unfold wp_X11_learns_L39
    refine br_t (nI_le (a := 256) (Nat.le_refl 256) (by decide)) (hp I h1 h2 (h3.congr (fun x hx => ?_)))
    show (P x || (decide (x < 256) && P (x ^^^ s))) = _
    rw [decide_eq_true hx, Bool.true_and]
  | succ d ih =>
    intro i I hi h1 h2 h3
    have hi8 : i < 2 ^ 8 := by omega
    have hx : i ^^^ s < 256 := Nat.xor_lt_two_pow (n := 8) hi8 hs
    unfold wp_X11_learns_L39
    rw [ni_xor, hM.old, hM.now, m_rem (by omega), m_div (by omega), m_at, nI_clamp (n := i ^^^ s) (by omega), nI_clamp (n := 21 + 8 * v + i / 32) (by omega), h1 292 (by decide), hO _ hx, ni_shl1 _ (by omega), nI_1, h3 (i / 32) (by omega)]
    have main : ∀ c : Bool, P (i ^^^ s) = c → wp_X11_learns_L39 Q 287 (nI v) (nI s) post (d + 1) (sti I 288 (21 + 8 * v + i / 32) (nI (wrd (fun y => P y || (decide (y < i) && P (y ^^^ s))) (32 * (i / 32)) 32 ||| (if c then 2 ^ (i % 32) else 0)))) (nI (i + 1)) := by
      intro c hc
      refine ih (i + 1) _ (by omega) (fun q hq => by rw [sti_ne _ _ _ hq]; exact h1 q hq) (fun j hj => ?_) (fun w hw => ?_)
      · rw [sti_at, pk_un (by omega)]
        exact h2 j hj
      · have hu := wrd_upd (P := fun y => P y || (decide (y < i) && P (y ^^^ s))) (P' := fun y => P y || (decide (y < i + 1) && P (y ^^^ s))) (i := i) (c := c) (fun y => by
          show (P y || (decide (y < i + 1) && P (y ^^^ s))) = ((P y || (decide (y < i) && P (y ^^^ s))) || (decide (y = i) && c))
          by_cases hy : y = i
          · subst hy
            rw [hc, decide_eq_true (show y < y + 1 by omega), decide_eq_false (show ¬ y < y by omega), decide_eq_true (show y = y from rfl)]
            cases P y <;> cases c <;> rfl
          · rw [decide_eq_false hy, Bool.false_and, Bool.or_false, show decide (y < i + 1) = decide (y < i) from decide_eq_decide.mpr ⟨fun q => by omega, fun q => by omega⟩]) w
        rw [sti_at, hu]
        by_cases hw2 : i / 32 = w
        · subst hw2
          rw [pk_us, if_pos rfl]
        · rw [pk_un (by omega), if_neg hw2]
          exact h3 w hw
    refine br_f (nI_ge (b := 256) (by omega) (by decide)) ⟨vp_in_nI (by omega) (by decide), vp_in_nI hx (by decide), fun c => ⟨vp_in_nI (by omega) (by decide), ?_⟩, fun c => ⟨vp_in_nI (by omega) (by decide), ?_⟩⟩
    · rw [show (0 : Int32) = nI 0 from rfl, ni_or]
      exact main false ((bI_eq _).mp c)
    · rw [ni_or]
      exact main true ((bI_ne _).mp c)
theorem ms_learns {I : KI} {Q : KQ} {v s k : Nat} {f : Nat → Nat} {post : KI → Prop} (hM : MdQ Q) (hG : Gb f k) (hk : k ≤ 8) (hs : s < 2 ^ k) (hK : KnIs (I 288) v (kn f)) (hv : v < 6) (hp : ∀ I', (∀ q, q ≠ 288 → q ≠ 292 → I' q = I q) → (∀ j, (j < 21 + 8 * v ∨ 29 + 8 * v ≤ j) → I' 288 j = I 288 j) → KnIs (I' 288) v (kn (adS f s)) → post I') : wp_X11_learns I Q 287 (nI v) (nI s) post := by
  have hs8 : s < 256 := Nat.lt_of_lt_of_le hs (Nat.pow_le_pow_right (n := 2) (by omega) hk)
  have he : ∀ x, kn (adS f s) x = (kn f x || kn f (x ^^^ s)) := by
    intro x
    unfold kn
    rw [← Bool.decide_or]
    exact decide_eq_decide.mpr (Sp_adS hG hk hs x)
  refine ⟨257, lp_learn1 I hM hK hv (fun I1 h1 h2 => ⟨vp_in_nI hs8 (by decide), ?_⟩) 256 0 I rfl (fun _ _ => rfl) (fun x hx => absurd hx (Nat.not_lt_zero x))⟩
  rw [hM.old, nI_clamp (by omega), h2 s hs8]
  refine ⟨fun c => ⟨257, ?_⟩, fun c => ?_⟩
  · refine lp_learn2 I1 hM h2 hv hs8 (fun I2 w1 w2 w3 => hp I2 (fun q q1 q2 => by rw [w1 q q1]; exact h1 q q2) (fun j hj => by rw [w2 j hj, h1 288 (by decide)]) (w3.congr (fun x _ => (he x).symm))) 256 0 I1 rfl (fun _ _ => rfl) (fun _ _ => rfl) ?_
    rw [h1 288 (by decide)]
    refine hK.congr (fun x _ => ?_)
    show kn f x = (kn f x || (decide (x < 0) && kn f (x ^^^ s)))
    rw [decide_eq_false (Nat.not_lt_zero x), Bool.false_and, Bool.or_false]
  · refine hp I1 (fun q _ q2 => h1 q q2) (fun j _ => by rw [h1 288 (by decide)]) ?_
    have hz : red f s = 0 := of_decide_eq_true ((bI_ne _).mp c)
    unfold adS
    rw [if_pos hz, h1 288 (by decide)]
    exact hK
