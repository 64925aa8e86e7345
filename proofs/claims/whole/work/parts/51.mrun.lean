/-! PURE, 14: links, ranks, a round of the reference -/
theorem ms_in {x : Int32} {lo hi : Nat} {post : Int32 → Prop} (hhi : hi < 2 ^ 31) (hlo : lo < 2 ^ 31) (hp1 : ∀ j, lo ≤ j → j ≤ hi → x = nI j → post 1) (hp0 : (∀ j, lo ≤ j → j ≤ hi → ¬ x = nI j) → post 0) : wp_X11_in x.toInt64 (lN lo) (lN hi) post := by
  unfold wp_X11_in
  rw [lg_cmp_lt, lg_cmp_gt]
  by_cases hx : x < 0
  · have h0 : post 0 := hp0 (fun j _ q e => by rw [e] at hx; exact nI_pos (by omega) hx)
    refine br_t ?_ h0
    rw [Int64.lt_iff_toInt_lt, Int32.toInt_toInt64, pk_lT (by omega)]
    have h2 := Int32.lt_iff_toInt_lt.mp hx
    have h3 : (0 : Int32).toInt = 0 := rfl
    omega
  · obtain ⟨j, hj, rfl⟩ := nI_of hx
    rw [nI_l hj, pk_lLT (by omega) (by omega), pk_lLT (by omega) (by omega)]
    refine ⟨fun c => hp0 (fun i h1 h2 e => ?_), fun c => ⟨fun c2 => hp0 (fun i h1 h2 e => ?_), fun c2 => hp1 j (by omega) (by omega) rfl⟩⟩
    · have := (nI_eq hj (by omega)).mp e
      omega
    · have := (nI_eq hj (by omega)).mp e
      omega
theorem ms_isNode {I : KI} {Q : KQ} {x : Int32} {n : Nat} {post : Int32 → Prop} (hM : MdQ Q) (hI : I 288 0 = nI n) (h2 : 2 ≤ n) (h6 : n ≤ 6) (hp1 : ∀ j, j < n → x = nI j → post 1) (hp0 : (∀ j, j < n → ¬ x = nI j) → post 0) : wp_X11_isNode I Q 287 x post := by
  unfold wp_X11_isNode
  rw [hM.now, tc0, hI, show nI n - (1 : Int32) = nI (n - 1) from pk_sub (a := n) (b := 1) (by omega), nI_l (by omega)]
  exact ms_in (lo := 0) (hi := n - 1) (by omega) (by omega) (fun j _ h e => ⟨Or.inr rfl, hp1 j (by omega) e⟩) (fun h => ⟨Or.inl rfl, hp0 (fun j hj => h j (by omega) (by omega))⟩)
theorem ms_isSet {x : Int32} {k : Nat} {post : Int32 → Prop} (hk : k ≤ 8) (hp1 : ∀ j, j < 2 ^ k → x = nI j → post 1) (hp0 : (∀ j, j < 2 ^ k → ¬ x = nI j) → post 0) : wp_X11_isSet x (nI k) post := by
  have h2 : 2 ^ k ≤ 2 ^ 8 := Nat.pow_le_pow_right (by omega) hk
  have h3 := Nat.two_pow_pos k
  unfold wp_X11_isSet
  rw [ni_shl1 k (by omega), show nI (2 ^ k) - (1 : Int32) = nI (2 ^ k - 1) from pk_sub (a := 2 ^ k) (b := 1) (by omega), nI_l (by omega)]
  exact ms_in (lo := 0) (hi := 2 ^ k - 1) (by omega) (by omega) (fun j _ h e => ⟨Or.inr rfl, hp1 j (by omega) e⟩) (fun h => ⟨Or.inl rfl, hp0 (fun j hj => h j (by omega) (by omega))⟩)
theorem ms_linkOf {u v : Nat} {post : Int32 → Prop} (hu : u < 6) (hv : v < 6) (huv : u ≠ v) (hp : post (nI (pi2 u v))) : wp_X11_linkOf (nI u) (nI v) post := by
  have tri : ∀ a b : Nat, a < 6 → b < a → ((nI a * (nI a - 1)) / (2 : Int32)) + nI b = nI (a * (a - 1) / 2 + b) := by
    intro a b ha hb
    rw [show nI a - (1 : Int32) = nI (a - 1) from pk_sub (a := a) (b := 1) (by omega), pk_mul]
    have h30 : a * (a - 1) < 2 ^ 31 := Nat.lt_of_le_of_lt (Nat.mul_le_mul (show a ≤ 6 by omega) (show a - 1 ≤ 6 by omega)) (by decide)
    rw [show nI (a * (a - 1)) / (2 : Int32) = nI (a * (a - 1) / 2) from pk_div h30 (by decide) (by decide), nI_add]
  unfold wp_X11_linkOf
  unfold pi2 at hp
  refine ⟨fun c => ?_, fun c => ?_⟩
  · have := (nI_leI (by omega) (by omega)).mp c
    rw [if_neg (by omega)] at hp
    rw [tri u v hu (by omega)]
    exact hp
  · have : ¬ v ≤ u := fun q => c (nI_le q (by omega))
    rw [if_pos (by omega)] at hp
    rw [tri v u hv (by omega)]
    exact hp
/-- all the other nodes below i -/
def otT (v : Nat) : Nat → Nat
  | 0 => 0
  | u + 1 => otT v u ||| (if u ≠ v then 2 ^ u else 0)
theorem otT_eq : ∀ n, n ≤ 6 → ∀ v, v < n → otT v n = (2 ^ n - 1) ^^^ 2 ^ v := by decide +kernel
theorem otT_lt (v : Nat) : ∀ i, otT v i < 2 ^ i := by
  intro i
  induction i with
  | zero => exact Nat.zero_lt_one
  | succ i ih =>
    simp only [otT]
    refine Nat.or_lt_two_pow (Nat.lt_of_lt_of_le ih (Nat.pow_le_pow_right (by omega) (by omega))) ?_
    split
    · exact Nat.pow_lt_pow_right (by omega) (by omega)
    · exact Nat.two_pow_pos _
theorem lp_linkedBy {p v n : Nat} {post : Int32 → Prop} (hn : n ≤ 6) (hv : v < 6) (hl : p < 2 ^ 31) (hp : post (nI (nbT p v n))) : ∀ d u, u + d = n → wp_X11_linkedBy_L6 (nI p) (nI v) (nI n) 0 post (d + 1) (nI (nbT p v u)) (nI u) := by
  intro d
  induction d with
  | zero =>
    intro u hu
    have : u = n := by omega
    subst this
    unfold wp_X11_linkedBy_L6
    exact br_t (nI_le (Nat.le_refl _) (by omega)) hp
  | succ d ih =>
    intro u hu
    have ih := ih (u + 1) (by omega)
    simp only [nbT] at ih
    unfold wp_X11_linkedBy_L6
    rw [ni_shl1 u (by omega), nI_1, show (0 : Int32) = nI 0 from rfl, ni_or, ni_or]
    refine br_f (nI_ge (by omega) (by omega)) ⟨fun c => ?_, fun c => ⟨fun c2 => absurd rfl c2, fun _ => ?_⟩⟩
    · have := (nI_eq (by omega) (by omega)).mp c
      rw [if_neg (fun q => q.1 this)] at ih
      exact ih
    · have hne : u ≠ v := fun q => c (by rw [q])
      have hlt : pi2 u v < 32 := by
        have := pi2_lt 6 (Nat.le_refl 6) u (by omega) v hv hne
        omega
      refine ms_linkOf (by omega) hv hne (ms_has (by omega) hlt ⟨fun c2 => ?_, fun c2 => ?_⟩)
      · have hb := (bI_eq _).mp c2
        rw [if_neg (fun q => by rw [hb] at q; exact absurd q.2 (by decide))] at ih
        exact ih
      · have hb := (bI_ne _).mp c2
        rw [if_pos ⟨hne, hb⟩] at ih
        exact ih
theorem ms_linkedBy {p v n : Nat} {post : Int32 → Prop} (hn : n ≤ 6) (hv : v < 6) (hl : p < 2 ^ 31) (hp : post (nI (nbT p v n))) : wp_X11_linkedBy (nI p) (nI v) (nI n) 0 post := ⟨n + 1, lp_linkedBy hn hv hl hp n 0 (by omega)⟩
theorem lp_linkedAny {x : Int32} {v n : Nat} {post : Int32 → Prop} (hn : n ≤ 6) (hv : v < 6) (hp : post (nI (otT v n))) : ∀ d u, u + d = n → wp_X11_linkedBy_L6 x (nI v) (nI n) 1 post (d + 1) (nI (otT v u)) (nI u) := by
  intro d
  induction d with
  | zero =>
    intro u hu
    have : u = n := by omega
    subst this
    unfold wp_X11_linkedBy_L6
    exact br_t (nI_le (Nat.le_refl _) (by omega)) hp
  | succ d ih =>
    intro u hu
    have ih := ih (u + 1) (by omega)
    simp only [otT] at ih
    unfold wp_X11_linkedBy_L6
    rw [ni_shl1 u (by omega), nI_1]
    refine br_f (nI_ge (by omega) (by omega)) ⟨fun c => ?_, fun c => ⟨fun _ => ?_, fun c2 => absurd c2 (by decide)⟩⟩
    · have := (nI_eq (by omega) (by omega)).mp c
      rw [show (0 : Int32) = nI 0 from rfl, ni_or]
      rw [if_neg (fun q => q this)] at ih
      exact ih
    · have hne : u ≠ v := fun q => c (by rw [q])
      rw [ni_or]
      rw [if_pos hne] at ih
      exact ih
theorem ms_linkedAny {x : Int32} {v n : Nat} {post : Int32 → Prop} (hn : n ≤ 6) (hv : v < 6) (hp : post (nI (otT v n))) : wp_X11_linkedBy x (nI v) (nI n) 1 post := ⟨n + 1, lp_linkedAny hn hv hp n 0 (by omega)⟩
theorem Gs.p15 {S : Snap} (h : Gs S) {i : Nat} (hi : i < S.1 6) : S.2.1 i < 2 ^ 15 := by
  have h1 := h.2.2.2.2.2.2.1 i hi
  refine Nat.lt_of_lt_of_le h1 (Nat.pow_le_pow_right (by omega) ?_)
  have h2 := h.1
  rcases (show S.1 0 = 2 ∨ S.1 0 = 3 ∨ S.1 0 = 4 ∨ S.1 0 = 5 ∨ S.1 0 = 6 by omega) with q | q | q | q | q <;> rw [q] <;> decide
theorem ms_linksOf {I : KI} {Q : KQ} {r : Nat} {S : Snap} {post : Int32 → Prop} (hM : MdQ Q) (hN : RowIs (I 288) S) (hG : Gs S) (hr : r < 2 ^ 31) (hp : post (nI (S.2.1 (r / S.1 3 % S.1 6)))) : wp_X11_linksOf I Q 287 (nI r) post := by
  have g4 := hG.2.2.2.1
  have g6 := hG.2.2.2.2.2.1
  have hlt : r / S.1 3 % S.1 6 < S.1 6 := Nat.mod_lt _ (by omega)
  have hd : r / S.1 3 < 2 ^ 31 := Nat.lt_of_le_of_lt (Nat.div_le_self _ _) hr
  unfold wp_X11_linksOf
  rw [hM.now, tc3, tc6, hN.sp, hN.q, pk_div hr (by omega) (by omega), pk_rem hd (by omega) (by omega), show (7 : Int32) + nI (r / S.1 3 % S.1 6) = nI (7 + r / S.1 3 % S.1 6) from nI_add 7 _, nI_clamp (by omega), hN.2.1 _ hlt]
  exact ⟨nI_ne0 (by omega) (by omega), nI_ne0 (by omega) (by omega), vp_in_nI (by omega) (by decide), hp⟩
/-- the links that are present -/
def prT (S : Snap) : Nat := S.2.1 (S.1 4 / S.1 3 % S.1 6)
theorem prT_lt {S : Snap} (hG : Gs S) : prT S < 2 ^ 15 := hG.p15 (Nat.mod_lt _ (by have := hG.2.2.2.2.2.1; omega))
theorem ms_present {I : KI} {Q : KQ} {S : Snap} {post : Int32 → Prop} (hM : MdQ Q) (hN : RowIs (I 288) S) (hG : Gs S) (hr : S.1 4 < 2 ^ 31) (hp : post (nI (prT S))) : wp_X11_present I Q 287 post := by
  unfold wp_X11_present
  rw [hM.now, tc4, hN.r]
  exact ms_linksOf hM hN hG hr hp
theorem lp_mranks {I : KI} {Q : KQ} {S : Snap} {post : Int32 → Prop} (hM : MdQ Q) (hN : RowIs (I 288) S) (hG : Gs S) (hp : post (nI (rksT S (S.1 0)))) : ∀ d i, i + d = S.1 0 → wp_X11_ranks_L4 I Q 287 post (d + 1) (nI (rksT S i)) (nI i) := by
  have h1 := hG.1
  intro d
  induction d with
  | zero =>
    intro i hi
    have : i = S.1 0 := by omega
    subst this
    unfold wp_X11_ranks_L4
    rw [hM.now, tc0, hN.n]
    exact br_t (nI_le (Nat.le_refl _) (by omega)) hp
  | succ d ih =>
    intro i hi
    have hB := hG.2.2.2.2.2.2.2.1 i (by omega)
    unfold wp_X11_ranks_L4
    rw [hM.now, tc0, hN.n]
    refine br_f (nI_ge (by omega) (by omega)) (ms_rank hM (hN.2.2.2 i (by omega)) (by omega) hB.2 (rk_le8 hB.1) ?_)
    rw [nI_1, nI_add]
    exact ih (i + 1) (by omega)
theorem ms_ranks {I : KI} {Q : KQ} {S : Snap} {post : Int32 → Prop} (hM : MdQ Q) (hN : RowIs (I 288) S) (hG : Gs S) (hp : post (nI (rksT S (S.1 0)))) : wp_X11_ranks I Q 287 post := ⟨S.1 0 + 1, lp_mranks hM hN hG hp (S.1 0) 0 (by omega)⟩
theorem lp_whole {I : KI} {Q : KQ} {S : Snap} {post : Int32 → Prop} (hM : MdQ Q) (hN : RowIs (I 288) S) (hG : Gs S) (hp : post (nI (fulT S (S.1 0)))) : ∀ d i, i + d = S.1 0 → wp_X11_whole_L4 I Q 287 post (d + 1) (nI (fulT S i)) (nI i) := by
  have h1 := hG.1
  have h2 := hG.2.1
  intro d
  induction d with
  | zero =>
    intro i hi
    have : i = S.1 0 := by omega
    subst this
    unfold wp_X11_whole_L4
    rw [hM.now, tc0, hN.n]
    exact br_t (nI_le (Nat.le_refl _) (by omega)) hp
  | succ d ih =>
    intro i hi
    have ih := ih (i + 1) (by omega)
    have hB := hG.2.2.2.2.2.2.2.1 i (by omega)
    have hrk := rk_le8 hB.1
    unfold wp_X11_whole_L4
    rw [hM.now, tc0, tc1, hN.n, hN.k, nI_1 i]
    refine br_f (nI_ge (by omega) (by omega)) (ms_rank hM (hN.2.2.2 i (by omega)) (by omega) hB.2 hrk ?_)
    rw [nI_eq (by omega) (by omega)]
    simp only [fulT] at ih
    refine ⟨fun c => ?_, fun c => ?_⟩
    · rw [if_neg c] at ih
      rw [show nI (fulT S i) + (0 : Int32) = nI (fulT S i + 0) from nI_add _ 0]
      exact ih
    · rw [if_pos c] at ih
      rw [nI_1]
      exact ih
theorem ms_whole {I : KI} {Q : KQ} {S : Snap} {post : Int32 → Prop} (hM : MdQ Q) (hN : RowIs (I 288) S) (hG : Gs S) (hp : post (nI (fulT S (S.1 0)))) : wp_X11_whole I Q 287 post := ⟨S.1 0 + 1, lp_whole hM hN hG hp (S.1 0) 0 (by omega)⟩
theorem RowIs.stC {g : Nat → Int32} {S : Snap} {i x : Nat} (h : RowIs g S) (hi : i < 6) : RowIs (upd g i (nI x)) (setC S i x) := by
  obtain ⟨h1, h2, h3, h4⟩ := h
  have e6 : (setC S i x).1 6 = S.1 6 := upk_n (by omega)
  refine ⟨fun j hj => ?_, fun j hj => by rw [pk_un (by omega)]; rw [e6] at hj; exact h2 j hj, fun v hv => by rw [pk_un (by omega)]; exact h3 v hv, fun v hv w hw => by rw [pk_un (by omega)]; exact h4 v hv w hw⟩
  show upd g i (nI x) j = nI (upk S.1 i x j)
  by_cases hji : j = i
  · subst hji; rw [pk_us, upk_s]
  · rw [pk_un hji, upk_n hji]; exact h1 j hj
theorem lp_goes {Q : KQ} {S : Snap} {post : KI → Prop} (I0 : KI) (hM : MdQ Q) (hN : RowIs (I0 288) S) (hG : Gs S) (hS : SentM I0 (sndM S (S.1 2)) (S.1 0)) (hd : I0 287 12 = nI (drwT S (S.1 2) (S.1 0))) (hr : S.1 4 < 2 ^ 31) (hp : ∀ I', (∀ q, q ≠ 288 → q ≠ 292 → I' q = I0 q) → RowIs (I' 288) (stepS S) → post I') : ∀ d v I, v + d = S.1 0 → (∀ q, q ≠ 288 → q ≠ 292 → I q = I0 q) → RowIs (I 288) (setC (stpT S v) 5 (S.1 5)) → wp_X11_goes_L11 Q 287 (nI (prT S)) post (d + 1) I (nI v) := by
  have hn := hG.1
  have hk := hG.2.1
  have hm := hG.2.2.1
  have hpr := prT_lt hG
  intro d
  induction d with
  | zero =>
    intro v I hv q1 q2
    have : v = S.1 0 := by omega
    subst this
    have e : ∀ i, i ≠ 5 → (setC (stpT S (S.1 0)) 5 (S.1 5)).1 i = S.1 i := fun i hi => by
      show upk (stpT S (S.1 0)).1 5 (S.1 5) i = _
      rw [upk_n hi, stpT_sc S _ i hi]
    unfold wp_X11_goes_L11
    rw [hM.now, tc0, tc4, tc5, q2.n, e 0 (by decide), q1 287 (by decide) (by decide), hd]
    refine br_t (nI_le (Nat.le_refl _) (by omega)) (hp _ (fun q a b => by rw [sti_ne _ _ _ a, sti_ne _ _ _ a]; exact q1 q a b) ?_)
    have h5 := (q2.stC (i := 5) (x := drwT S (S.1 2) (S.1 0)) (by decide))
    have e4 : (upd (I 288) 5 (nI (drwT S (S.1 2) (S.1 0)))) 4 = nI (S.1 4) := by
      rw [pk_un (by decide), q2.r, e 4 (by decide)]
    have h4 := h5.stC (i := 4) (x := S.1 4 + 1) (by decide)
    rw [sti_at, sti_at, e4, nI_1]
    have es : setC (setC (setC (stpT S (S.1 0)) 5 (S.1 5)) 5 (drwT S (S.1 2) (S.1 0))) 4 (S.1 4 + 1) = stepS S := by
      unfold stepS setC
      congr 1
      show upk (upk (upk (stpT S (S.1 0)).1 5 (S.1 5)) 5 (drwT S (S.1 2) (S.1 0))) 4 (S.1 4 + 1) = upk (stpT S (S.1 0)).1 4 (S.1 4 + 1)
      rw [upk2]
      congr 1
      funext i
      by_cases h : i = 5
      · subst h; rw [upk_s, stpT_d]
      · rw [upk_n h]
    rw [es] at h4
    exact h4
  | succ d ih =>
    intro v I hv q1 q2
    have hv6 : v < 6 := by omega
    have e : ∀ i, i ≠ 5 → (setC (stpT S v) 5 (S.1 5)).1 i = S.1 i := fun i hi => by
      show upk (stpT S v).1 5 (S.1 5) i = _
      rw [upk_n hi, stpT_sc S _ i hi]
    have hB := hG.2.2.2.2.2.2.2.1 v hv6
    have hsv : (stpT S v).2.2.1 v = S.2.2.1 v := by rw [stpT_sp, if_neg (Nat.lt_irrefl v)]
    have hgv : (stpT S v).2.2.2 v = S.2.2.2 v := by rw [stpT_gn, if_neg (Nat.lt_irrefl v)]
    have hI0 : I 288 0 = nI (S.1 0) := by rw [q2.n, e 0 (by decide)]
    unfold wp_X11_goes_L11
    rw [hM.now, tc0, tc2, hI0, show (15 : Int32) + nI v = nI (15 + v) from nI_add 15 v, nI_clamp (n := 15 + v) (by omega), nI_clamp (n := v) (by omega), hM.sendMany, hM.send, show (8 : Int32) * nI v = nI (8 * v) from pk_mul 8 v, nI_clamp (n := 8 * v) (by omega), nI_1]
    refine br_f (nI_ge (by omega) (by omega)) (ms_linkedBy hn.2 hv6 (by omega) ?_)
    have hl1 := hearL_lt (L := sndM S (S.1 2)) (s := nbT (prT S) v (S.1 0)) (k := S.1 1) (n := S.1 0) (fun u hu => (sndM_lt hG (S.1 2) (by omega)).1) (S.1 0) (Nat.le_refl _)
    refine ms_hears hM hk.2 hn.2 hv6 (Nat.lt_of_lt_of_le (nbT_lt _ _ _) (Nat.pow_le_pow_right (by omega) (by omega))) hI0 (L := sndM S (S.1 2)) (fun u hu => by rw [q1 293 (by decide) (by decide), q1 294 (by decide) (by decide)]; exact hS u hu) (fun u hu => (sndM_lt hG (S.1 2) (by omega)).1) (f := S.2.2.1 v) hB.1 (by have := q2.2.2.2 v hv6; rw [show (setC (stpT S v) 5 (S.1 5)).2.2.1 v = S.2.2.1 v from hsv] at this; exact this) (fun I1 w1 w2 w3 => ?_)
    have hm1 : I1 288 2 = nI (S.1 2) := by rw [w2 2 (by omega), q2.m, e 2 (by decide)]
    have hg1 : I1 288 (15 + v) = nI (S.2.2.2 v) := by
      rw [w2 (15 + v) (by omega), q2.2.2.1 v hv6]
      show nI ((stpT S v).2.2.2 v) = _
      rw [hgv]
    have f1 : ∀ q, q ≠ 288 → q ≠ 292 → I1 q = I0 q := fun q a b => by rw [w1 q a b]; exact q1 q a b
    rw [hm1, hg1, f1 293 (by decide) (by decide), f1 294 (by decide) (by decide)]
    have main : ∀ x, x = newG S v → wp_X11_goes_L11 Q 287 (nI (prT S)) post (d + 1) (sti I1 288 (15 + v) (nI x)) (nI (v + 1)) := by
      intro x hx
      refine ih (v + 1) _ (by omega) (fun q a b => by rw [sti_ne _ _ _ a]; exact f1 q a b) ?_
      rw [sti_at]
      obtain ⟨h1, h2, h3, h4⟩ := q2
      refine ⟨fun i hi => ?_, fun i hi => ?_, fun u hu => ?_, fun u hu w hw => ?_⟩
      · rw [pk_un (by omega), w2 i (by omega)]
        exact h1 i hi
      · have hi' : i < (setC (stpT S v) 5 (S.1 5)).1 6 := hi
        have h8 : S.1 6 ≤ 8 := hG.2.2.2.2.2.1.2
        have h6 := e 6 (by decide)
        rw [pk_un (by omega), w2 (7 + i) (by omega)]
        exact h2 i hi'
      · show _ = nI (upk (stpT S v).2.2.2 v (newG S v) u)
        by_cases huv : u = v
        · subst huv; rw [pk_us, upk_s, hx]
        · rw [pk_un (by omega), upk_n huv, w2 (15 + u) (by omega)]
          exact h3 u hu
      · rw [pk_un (by omega)]
        show _ = nI (wrd (kn (upk (stpT S v).2.2.1 v (newP S v) u)) (32 * w) 32)
        by_cases huv : u = v
        · subst huv
          rw [upk_s]
          have hc := w3.congr (P' := kn (newP S u)) (fun x _ => by
            unfold newP
            exact kn_perm hk.2 hB.1 hl1 (hear_perm S (S.1 2) (nbT (prT S) u (S.1 0)) (S.1 0)) x)
          exact hc w hw
        · rw [upk_n huv, w2 (21 + 8 * u + w) (by omega)]
          exact h4 u hu w hw
    obtain ⟨s1, s2, s3⟩ := hS v (by omega)
    refine ⟨vp_in_nI (by omega) (by decide), fun c => ⟨vp_in_nI (by omega) (by decide), ?_⟩, fun c => ⟨vp_in_nI hv6 (by decide), fun c2 => ⟨vp_in_nI (by omega) (by decide), ?_⟩, fun c2 => ⟨vp_in_nI (by omega) (by decide), vp_in_nI (by omega) (by decide), ?_⟩⟩⟩
    · have hm0 : ¬ S.1 2 = 0 := fun q => c (by rw [q]; rfl)
      rw [show (0 : Int32) = nI 0 from rfl, ni_or]
      exact main _ (by unfold newG; rw [if_neg hm0])
    · have hm0 : S.1 2 = 0 := (nI_z (by omega)).mp c
      rw [s1] at c2
      have hz : (sndM S (S.1 2) v).length = 0 := by
        have := (nI_leI (b := 0) (by omega) (by decide)).mp c2
        omega
      rw [show (0 : Int32) = nI 0 from rfl, ni_or]
      refine main _ ?_
      unfold newG
      rw [if_pos hm0]
      have e2 : sndL S (S.1 2) v = sndM S (S.1 2) v := by unfold sndM; rw [if_neg (by omega)]
      rw [e2, List.length_eq_zero_iff.mp hz]
      rfl
    · have hm0 : S.1 2 = 0 := (nI_z (by omega)).mp c
      have hlen : 0 < (sndM S (S.1 2) v).length := by
        apply Nat.pos_of_ne_zero
        intro q
        apply c2
        rw [s1, q]
        decide
      have h0 := s3 0 hlen
      rw [Nat.add_zero] at h0
      rw [h0, ni_or]
      refine main _ ?_
      unfold newG
      rw [if_pos hm0]
      have e2 : sndL S (S.1 2) v = sndM S (S.1 2) v := by unfold sndM; rw [if_neg (by omega)]
      rw [e2]
theorem stp0 (S : Snap) : setC (stpT S 0) 5 (S.1 5) = S := by
  show (upk (upk S.1 5 (drwT S (S.1 2) (S.1 0))) 5 (S.1 5), S.2) = S
  rw [upk2, upk_id]
theorem ms_goes {I : KI} {Q : KQ} {S : Snap} {post : KI → Prop} (hM : MdQ Q) (hN : RowIs (I 288) S) (hG : Gs S) (hr : S.1 4 < 2 ^ 31) (hp : ∀ I', (∀ q, q ≠ 287 → q ≠ 288 → q ≠ 292 → q ≠ 293 → q ≠ 294 → I' q = I q) → (∀ j, j ≠ 12 → I' 287 j = I 287 j) → RowIs (I' 288) (stepS S) → post I') : wp_X11_goes I Q 287 post := by
  unfold wp_X11_goes
  refine ms_laysSends hM hN hG hr (fun I1 w1 w2 w3 w4 => ?_)
  have hN1 : RowIs (I1 288) S := by rw [w1 288 (by decide) (by decide) (by decide)]; exact hN
  refine ms_present hM hN1 hG hr ⟨S.1 0 + 1, ?_⟩
  refine lp_goes I1 hM hN1 hG w4 w3 hr (fun I' z1 z2 => hp I' (fun q a b c d e => by rw [z1 q b c, w1 q a d e]) (fun j hj => by rw [z1 287 (by decide) (by decide), w2 j hj]) z2) (S.1 0) 0 I1 (by omega) (fun _ _ _ => rfl) ?_
  rw [stp0]
  exact hN1
