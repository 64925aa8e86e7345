/-! PURE, 12: the order in which sums are heard doesn't matter -/
def SpE (f : Nat → Nat) : List Nat → Nat → Prop
  | [], x => Sp f x
  | s :: xs, x => SpE f xs x ∨ SpE f xs (x ^^^ s)
theorem xor_rc (a b c : Nat) : a ^^^ b ^^^ c = a ^^^ c ^^^ b := by rw [Nat.xor_assoc, Nat.xor_comm b c, ← Nat.xor_assoc]
theorem SpE_ad {f : Nat → Nat} {k s : Nat} (hG : Gb f k) (hk : k ≤ 8) (hs : s < 2 ^ k) : ∀ (xs : List Nat) (x : Nat), SpE (adS f s) xs x ↔ SpE f xs x ∨ SpE f xs (x ^^^ s) := by
  intro xs
  induction xs with
  | nil => intro x; exact Sp_adS hG hk hs x
  | cons t xs ih =>
    intro x
    show (SpE (adS f s) xs x ∨ SpE (adS f s) xs (x ^^^ t)) ↔ ((SpE f xs x ∨ SpE f xs (x ^^^ t)) ∨ (SpE f xs (x ^^^ s) ∨ SpE f xs (x ^^^ s ^^^ t)))
    rw [ih, ih, xor_rc x s t]
    constructor
    · rintro ((h | h) | (h | h))
      · exact Or.inl (Or.inl h)
      · exact Or.inr (Or.inl h)
      · exact Or.inl (Or.inr h)
      · exact Or.inr (Or.inr h)
    · rintro ((h | h) | (h | h))
      · exact Or.inl (Or.inl h)
      · exact Or.inr (Or.inl h)
      · exact Or.inl (Or.inr h)
      · exact Or.inr (Or.inr h)
theorem SpE_fold {k : Nat} (hk : k ≤ 8) : ∀ (xs : List Nat) (f : Nat → Nat), Gb f k → (∀ x ∈ xs, x < 2 ^ k) → ∀ x, Sp (xs.foldl adS f) x ↔ SpE f xs x := by
  intro xs
  induction xs with
  | nil => intro f _ _ x; exact Iff.rfl
  | cons s xs ih =>
    intro f hG hx x
    have h0 := hx s List.mem_cons_self
    rw [List.foldl_cons, ih (adS f s) (Gb_adS hG hk h0) (fun y hy => hx y (List.mem_cons_of_mem _ hy)), SpE_ad hG hk h0]
    exact Iff.rfl
theorem SpE_perm {f : Nat → Nat} {xs ys : List Nat} (h : xs.Perm ys) : ∀ x, SpE f xs x ↔ SpE f ys x := by
  induction h with
  | nil => intro x; exact Iff.rfl
  | cons s _ ih =>
    intro x
    show (_ ∨ _) ↔ (_ ∨ _)
    rw [ih, ih]
  | swap a b l =>
    intro x
    show ((SpE f l x ∨ SpE f l (x ^^^ a)) ∨ (SpE f l (x ^^^ b) ∨ SpE f l (x ^^^ b ^^^ a))) ↔ ((SpE f l x ∨ SpE f l (x ^^^ b)) ∨ (SpE f l (x ^^^ a) ∨ SpE f l (x ^^^ a ^^^ b)))
    rw [xor_rc x b a]
    constructor
    · rintro ((h | h) | (h | h))
      · exact Or.inl (Or.inl h)
      · exact Or.inr (Or.inl h)
      · exact Or.inl (Or.inr h)
      · exact Or.inr (Or.inr h)
    · rintro ((h | h) | (h | h))
      · exact Or.inl (Or.inl h)
      · exact Or.inr (Or.inl h)
      · exact Or.inl (Or.inr h)
      · exact Or.inr (Or.inr h)
  | trans _ _ h1 h2 => intro x; rw [h1, h2]
theorem kn_perm {f : Nat → Nat} {k : Nat} {xs ys : List Nat} (hk : k ≤ 8) (hG : Gb f k) (hx : ∀ x ∈ xs, x < 2 ^ k) (h : xs.Perm ys) (x : Nat) : kn (xs.foldl adS f) x = kn (ys.foldl adS f) x := by
  unfold kn
  refine decide_eq_decide.mpr ?_
  have h1 := SpE_fold hk xs f hG hx x
  have h2 := SpE_fold hk ys f hG (fun y hy => hx y (h.mem_iff.mpr hy)) x
  rw [Sp] at h1 h2
  rw [h1, h2]
  exact SpE_perm h x
theorem rk_cnt {f g : Nat → Nat} (hf : cntS f = 2 ^ rk f) (hg : cntS g = 2 ^ rk g) (h : ∀ x, kn f x = kn g x) : rk f = rk g := by
  have e : cntS f = cntS g := cnt_congr _ _ h 8 0
  rw [hf, hg] at e
  exact (Nat.pow_right_inj (by omega)).mp e
/-! copies -/
theorem cpi_s (I : KI) {a b : Nat} (hab : a ≠ b) (i j x : Nat) : sti (cpi I a b i j x) b (j + x) (cpi I a b i j x a (i + x)) = cpi I a b i j (x + 1) := by
  rw [cpi_ne _ _ _ _ _ _ hab]
  funext q
  by_cases hq : q = b
  · subst hq
    rw [sti_at]
    unfold cpi
    rw [upk_s, upk_s]
    funext t
    by_cases ht : t = j + x
    · subst ht
      rw [pk_us, pk_cpy_in (by omega) (by omega)]
      congr 1
      omega
    · rw [pk_un ht]
      by_cases h : j ≤ t ∧ t < j + x
      · rw [pk_cpy_in h.1 h.2, pk_cpy_in h.1 (by omega)]
      · rw [pk_cpy_out (by omega), pk_cpy_out (by omega)]
  · rw [sti_ne _ _ _ hq, cpi_ne _ _ _ _ _ _ hq, cpi_ne _ _ _ _ _ _ hq]
theorem cpi_0 (I : KI) (a b i j : Nat) : cpi I a b i j 0 = I := by
  funext q
  by_cases hq : q = b
  · subst hq
    unfold cpi
    rw [upk_s]
    funext t
    rw [pk_cpy_out (by omega)]
  · rw [cpi_ne _ _ _ _ _ _ hq]
theorem lp_copies {a b i j n m0 m2 : Nat} {post : KI → Prop} (I : KI) (hab : a ≠ b) (h0 : i + n ≤ m0) (h2 : j + n ≤ m2) (hm : m0 < 2 ^ 31) (hm2 : m2 < 2 ^ 31) (hp : post (cpi I a b i j n)) : ∀ d x, x + d = n → wp_X11_copies_L3 a (nI i) b (nI j) (nI n) m0 m2 post (d + 1) (cpi I a b i j x) (nI x) := by
  intro d
  induction d with
  | zero =>
    intro x hx
    have : x = n := by omega
    subst this
    unfold wp_X11_copies_L3
    exact br_t (nI_le (Nat.le_refl _) (by omega)) hp
  | succ d ih =>
    intro x hx
    unfold wp_X11_copies_L3
    rw [nI_add i, nI_add j, nI_clamp (n := i + x) (by omega), nI_clamp (n := j + x) (by omega), nI_1, cpi_s I hab]
    exact br_f (nI_ge (by omega) (by omega)) ⟨vp_in_nI (by omega) hm, vp_in_nI (by omega) hm2, ih (x + 1) (by omega)⟩
theorem ms_copies {I : KI} {a b i j n m0 m2 : Nat} {post : KI → Prop} (hab : a ≠ b) (h0 : i + n ≤ m0) (h2 : j + n ≤ m2) (hm : m0 < 2 ^ 31) (hm2 : m2 < 2 ^ 31) (hp : post (cpi I a b i j n)) : wp_X11_copies I a m0 (nI i) b m2 (nI j) (nI n) post := ⟨n + 1, by
  have := lp_copies I hab h0 h2 hm hm2 hp n 0 (by omega)
  rw [cpi_0] at this
  exact this⟩
theorem cpi_in (I : KI) (a b i j n : Nat) {t : Nat} (h1 : j ≤ t) (h2 : t < j + n) : cpi I a b i j n b t = I a (i + (t - j)) := by
  unfold cpi
  rw [upk_s, pk_cpy_in h1 h2]
theorem cpi_out (I : KI) (a b i j n : Nat) {t : Nat} (h : t < j ∨ j + n ≤ t) : cpi I a b i j n b t = I b t := by
  unfold cpi
  rw [upk_s, pk_cpy_out h]
/-! what each node sends, in the reference's order -/
def SentM (I : KI) (L : Nat → List Nat) (n : Nat) : Prop := ∀ v, v < n → I 293 v = nI (L v).length ∧ (L v).length ≤ 8 ∧ ∀ j, j < (L v).length → I 294 (8 * v + j) = nI ((L v).getD j 0)
def SM (I : KI) (v : Nat) (xs : List Nat) : Prop := I 293 v = nI xs.length ∧ ∀ j, j < xs.length → I 294 (8 * v + j) = nI (xs.getD j 0)
def sndM (S : Snap) (m v : Nat) : List Nat := if m = 3 then (allT (S.2.2.1 v) 8).reverse else sndL S m v
theorem sndM_perm (S : Snap) (m v : Nat) : (sndM S m v).Perm (sndL S m v) := by
  unfold sndM sndL
  split
  · exact List.reverse_perm _
  · exact List.Perm.refl _
theorem hear_perm (S : Snap) (m s : Nat) : ∀ i, (hearL (sndM S m) s i).Perm (hearL (sndL S m) s i) := by
  intro i
  induction i with
  | zero => exact List.Perm.refl _
  | succ i ih =>
    simp only [hearL]
    refine ih.append ?_
    split
    · exact sndM_perm S m i
    · exact List.Perm.refl _
theorem rowT_all (f : Nat → Nat) : ∀ i j, j < (allT f i).length → (allT f i).reverse.getD j 0 = rowT f i j := by
  intro i
  induction i with
  | zero => intro j h; exact absurd h (Nat.not_lt_zero j)
  | succ i ih =>
    intro j h
    simp only [allT, rowT] at h ⊢
    by_cases hf : f i = 0
    · rw [if_pos hf] at h ⊢
      rw [if_pos hf]
      exact ih j h
    · rw [if_neg hf] at h ⊢
      rw [if_neg hf, List.reverse_append]
      cases j with
      | zero => simp
      | succ j =>
        simp only [List.length_append, List.length_cons, List.length_nil] at h
        have := ih j (by omega)
        simpa using this
theorem sndM_lt {S : Snap} (hG : Gs S) (m : Nat) {v : Nat} (hv : v < 6) : (∀ x ∈ sndM S m v, x < 2 ^ S.1 1) ∧ (sndM S m v).length ≤ 8 := by
  have h := sndL_lt hG m hv
  have hp := sndM_perm S m v
  exact ⟨fun x hx => h.1 x (hp.mem_iff.mp hx), by rw [hp.length_eq]; exact h.2⟩
theorem ms_goesOn {d : Nat} {post : Int32 → Prop} (hp : post (nI (chg d))) : wp_X11_goesOn (nI d) post := by
  have h := sp_changed (d := d) (post := fun x => x = nI (chg d)) rfl
  unfold wp_X10_changed at h
  unfold wp_X11_goesOn
  have e : ((((nI d).toInt64 * (1103515245 : Int64)) + (12345 : Int64)) &&& (2147483647 : Int64)).toInt32 = nI (chg d) := by
    rw [Int64.toInt32_and, lg_l2i_add, lg_l2i_mul, lg_l2i_i2l]
    exact h
  rw [e]
  exact hp
/-- the lowest member of a set; 8: none -/
def liT (x : Nat) : Nat → Nat → Nat
  | 0, _ => 8
  | d + 1, i => if x.testBit i then i else liT x d (i + 1)
def lowM (x : Nat) : Int32 := if liT x 8 0 < 8 then nI (liT x 8 0) else -4
theorem liT_t {x d i : Nat} (h : x.testBit i = true) : liT x (d + 1) i = i := by simp [liT, h]
theorem liT_f {x d i : Nat} (h : x.testBit i = false) : liT x (d + 1) i = liT x d (i + 1) := by simp [liT, h]
theorem liT_low (x : Nat) : ∀ d i, i + d ≤ 8 → lowT x d i = if liT x d i < 8 then 2 ^ liT x d i else 0 := by
  intro d
  induction d with
  | zero => intro i _; simp [lowT, liT]
  | succ d ih =>
    intro i hi
    simp only [lowT]
    by_cases h : x.testBit i = true
    · rw [if_pos h, liT_t h, if_pos (by omega)]
    · rw [if_neg h, liT_f (by simpa using h)]
      exact ih (i + 1) (by omega)
theorem liT_none {x k : Nat} (hx : x < 2 ^ k) : ∀ d i, k ≤ i → liT x d i = 8 := by
  intro d
  induction d with
  | zero => intro i _; rfl
  | succ d ih =>
    intro i hi
    simp only [liT]
    rw [bit_out hx hi]
    exact ih (i + 1) (by omega)
theorem lp_least {I : KI} {Q : KQ} {k x : Nat} {post : Int32 → Prop} (hM : MdQ Q) (hk : k ≤ 8) (hI : I 288 1 = nI k) (hx : x < 2 ^ k) : ∀ d i, i + d = k → (post (if liT x (8 - i) i < 8 then nI (liT x (8 - i) i) else -4)) → wp_X11_leastOf_L20 I Q 287 (nI x) post (d + 1) (nI i) := by
  have hx8 : x < 2 ^ 8 := Nat.lt_of_lt_of_le hx (Nat.pow_le_pow_right (by omega) hk)
  intro d
  induction d with
  | zero =>
    intro i hi hp
    have : i = k := by omega
    subst this
    unfold wp_X11_leastOf_L20
    rw [hM.now, tc1, hI]
    rw [liT_none hx _ _ (Nat.le_refl _)] at hp
    exact br_t (nI_le (Nat.le_refl _) (by omega)) hp
  | succ d ih =>
    intro i hi hp
    unfold wp_X11_leastOf_L20
    rw [hM.now, tc1, hI, nI_1]
    obtain ⟨e, he⟩ : ∃ e, 8 - i = e + 1 := ⟨7 - i, by omega⟩
    rw [he] at hp
    refine br_f (nI_ge (by omega) (by omega)) (ms_has (by omega) (by omega) ⟨fun c => ?_, fun c => ?_⟩)
    · rw [liT_f ((bI_eq _).mp c)] at hp
      refine ih (i + 1) (by omega) ?_
      rw [show 8 - (i + 1) = e by omega]
      exact hp
    · rw [liT_t ((bI_ne _).mp c), if_pos (by omega)] at hp
      exact hp
theorem RowIs.n {g : Nat → Int32} {S : Snap} (h : RowIs g S) : g 0 = nI (S.1 0) := h.1 0 (by decide)
theorem RowIs.k {g : Nat → Int32} {S : Snap} (h : RowIs g S) : g 1 = nI (S.1 1) := h.1 1 (by decide)
theorem RowIs.m {g : Nat → Int32} {S : Snap} (h : RowIs g S) : g 2 = nI (S.1 2) := h.1 2 (by decide)
theorem RowIs.sp {g : Nat → Int32} {S : Snap} (h : RowIs g S) : g 3 = nI (S.1 3) := h.1 3 (by decide)
theorem RowIs.r {g : Nat → Int32} {S : Snap} (h : RowIs g S) : g 4 = nI (S.1 4) := h.1 4 (by decide)
theorem RowIs.d {g : Nat → Int32} {S : Snap} (h : RowIs g S) : g 5 = nI (S.1 5) := h.1 5 (by decide)
theorem RowIs.q {g : Nat → Int32} {S : Snap} (h : RowIs g S) : g 6 = nI (S.1 6) := h.1 6 (by decide)
theorem ms_leastOf {I : KI} {Q : KQ} {v : Nat} {S : Snap} {post : Int32 → Prop} (hM : MdQ Q) (hN : RowIs (I 288) S) (hG : Gs S) (hv : v < 6) (hp : post (lowM (andn (toldT (S.2.2.1 v) 8) (S.2.2.2 v)))) : wp_X11_leastOf I Q 287 (nI v) post := by
  have h1 := hG.2.1
  have hB := (hG.2.2.2.2.2.2.2.1 v hv).1
  unfold wp_X11_leastOf
  refine ms_tells hM hB h1.2 hN.k (hN.2.2.2 v hv) hv ⟨by rw [show (15 : Int32) + nI v = nI (15 + v) from nI_add 15 v]; exact vp_in_nI (by omega) (by decide), S.1 1 + 1, ?_⟩
  rw [show (15 : Int32) + nI v = nI (15 + v) from nI_add 15 v, nI_clamp (by omega), hM.now, hN.2.2.1 v hv, ni_andn]
  exact lp_least hM h1.2 hN.k (andn_lt (toldT_lt hB)) (S.1 1) 0 (by omega) hp
theorem ms_turnOf {I : KI} {Q : KQ} {v : Nat} {S : Snap} {post : Int32 → Prop} (hM : MdQ Q) (hN : RowIs (I 288) S) (hG : Gs S) (hr : S.1 4 < 2 ^ 31) (hv : v < 6) (hp : post (if S.2.2.1 v (S.1 4 % S.1 1) = 2 ^ (S.1 4 % S.1 1) then nI (S.1 4 % S.1 1) else -4)) : wp_X11_turnOf I Q 287 (nI v) post := by
  have h1 := hG.2.1
  have hlt : S.1 4 % S.1 1 < S.1 1 := Nat.mod_lt _ (by omega)
  have h2 : 2 ^ (S.1 4 % S.1 1) < 2 ^ 8 := Nat.pow_lt_pow_right (by omega) (by omega)
  unfold wp_X11_turnOf
  rw [hM.now, tc1, tc4, hN.k, hN.r, pk_rem hr (by omega) (by omega), ni_shl1 _ (by omega)]
  refine ⟨nI_ne0 (by omega) (by omega), ms_known hM (hN.2.2.2 v hv) hv h2 ⟨fun c => ?_, fun c => ?_⟩⟩
  · have hz := of_decide_eq_false ((bI_eq _).mp c)
    rw [red_tok (by omega)] at hz
    rw [if_neg hz] at hp
    exact hp
  · have hz := of_decide_eq_true ((bI_ne _).mp c)
    rw [red_tok (by omega)] at hz
    rw [if_pos hz] at hp
    exact hp
/-- sums added for each bit -/
def xsT (g : Nat → Nat) : Nat → Nat
  | 0 => 0
  | j + 1 => xsT g j ^^^ g j
theorem xsT_s (g : Nat → Nat) : ∀ n, xsT g (n + 1) = g 0 ^^^ xsT (fun j => g (j + 1)) n := by
  intro n
  induction n with
  | zero => simp [xsT]
  | succ n ih =>
    show xsT g (n + 1) ^^^ g (n + 1) = g 0 ^^^ (xsT (fun j => g (j + 1)) n ^^^ g (n + 1))
    rw [ih, Nat.xor_assoc]
theorem xsT_congr {g g' : Nat → Nat} : ∀ n, (∀ j, j < n → g j = g' j) → xsT g n = xsT g' n := by
  intro n
  induction n with
  | zero => intro _; rfl
  | succ n ih =>
    intro h
    show xsT g n ^^^ g n = xsT g' n ^^^ g' n
    rw [ih (fun j hj => h j (by omega)), h n (by omega)]
theorem mix_xs (f : Nat → Nat) : ∀ i b, mixT f i b = xsT (fun j => if b.testBit j then rowT f i j else 0) (rkT f i) := by
  intro i
  induction i with
  | zero => intro b; rfl
  | succ i ih =>
    intro b
    simp only [mixT, rkT]
    by_cases hf : f i = 0
    · rw [if_pos hf, if_pos hf, ih]
      refine xsT_congr _ (fun j _ => ?_)
      simp only [rowT, hf, if_true]
    · rw [if_neg hf, if_neg hf, ih, xsT_s]
      congr 1
      · simp only [rowT, hf, if_false, if_true]
      · refine xsT_congr _ (fun j _ => ?_)
        simp only [rowT, hf, if_false, Nat.testBit_succ]
        rw [if_neg (by omega : ¬ j + 1 = 0)]
        rfl
theorem lp_drawn {I : KI} {Q : KQ} {v k x r : Nat} {f : Nat → Nat} {post : Int32 → KI → Prop} (hM : MdQ Q) (hG : Gb f k) (hk : k ≤ 8) (h1 : 1 ≤ k) (hI : I 288 1 = nI k) (hK : KnIs (I 288) v (kn f)) (hv : v < 6) (hx : x < 2 ^ 31) (hr : r ≤ 8) (hp : post (nI (xsT (fun j => if x.testBit j then rowT f 8 j else 0) r)) I) : ∀ d i, i + d = r → wp_X11_drawnOf_L31 I Q 287 (nI v) (nI x) (nI r) post (d + 1) (nI (xsT (fun j => if x.testBit j then rowT f 8 j else 0) i)) (nI i) := by
  intro d
  induction d with
  | zero =>
    intro i hi
    have : i = r := by omega
    subst this
    unfold wp_X11_drawnOf_L31
    exact br_t (nI_le (Nat.le_refl _) (by omega)) hp
  | succ d ih =>
    intro i hi
    have ih := ih (i + 1) (by omega)
    unfold wp_X11_drawnOf_L31
    rw [nI_1]
    refine br_f (nI_ge (by omega) (by omega)) (ms_has (by omega) (by omega) ⟨fun c => ?_, fun c => ?_⟩)
    · simp only [xsT, (bI_eq _).mp c] at ih
      rw [show (0 : Int32) = nI 0 from rfl, ni_xor]
      simpa using ih
    · simp only [xsT, (bI_ne _).mp c, if_true] at ih
      refine ms_sumOf hM hG hk h1 hI hK hv (by omega) ?_
      rw [ni_xor]
      exact ih
theorem ms_drawnOf {I : KI} {Q : KQ} {v d : Nat} {S : Snap} {post : Int32 → KI → Prop} (hM : MdQ Q) (hN : RowIs (I 288) S) (hG : Gs S) (hv : v < 6) (hd : I 287 12 = nI d) (hp : post (nI (mixT (S.2.2.1 v) 8 (chg d / 65536))) (sti I 287 12 (nI (chg d)))) : wp_X11_drawnOf I Q 287 (nI v) post := by
  have h1 := hG.2.1
  have hB := hG.2.2.2.2.2.2.2.1 v hv
  have hrk := rk_le8 hB.1
  have hc := chg_lt d
  unfold wp_X11_drawnOf
  rw [hd]
  refine ms_goesOn ?_
  have e : sti I 287 12 (nI (chg d)) 288 = I 288 := sti_ne _ _ _ (by decide)
  refine ms_rank hM (by rw [e]; exact hN.2.2.2 v hv) hv hB.2 hrk ⟨rk (S.2.2.1 v) + 1, ?_⟩
  rw [sti_at, pk_us, show nI (chg d) / (65536 : Int32) = nI (chg d / 65536) from pk_div hc (by decide) (by decide)]
  refine lp_drawn hM hB.1 h1.2 h1.1 (by rw [e]; exact hN.k) (by rw [e]; exact hN.2.2.2 v hv) hv (by omega) hrk ?_ (rk (S.2.2.1 v)) 0 (by omega)
  rw [mix_xs] at hp
  exact hp
