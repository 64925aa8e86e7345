/-! PURE, 40: read, the call -/
def rdS (S : Snap) (cnt : Nat) (L : Nat → Nat) : Snap := (upk S.1 6 cnt, L, S.2.2)
theorem rdS_n (S : Snap) (cnt : Nat) (L : Nat → Nat) {i : Nat} (h : i ≠ 6) : (rdS S cnt L).1 i = S.1 i := upk_n h
theorem rdS_6 (S : Snap) (cnt : Nat) (L : Nat → Nat) : (rdS S cnt L).1 6 = cnt := by
  show upk S.1 6 cnt 6 = cnt
  exact upk_s
theorem Gs.rd {S : Snap} {cnt : Nat} {L : Nat → Nat} (hG : Gs S) (h1 : 1 ≤ cnt) (h8 : cnt ≤ 8) (hL : ∀ x, x < cnt → L x < 2 ^ (S.1 0 * (S.1 0 - 1) / 2)) : Gs (rdS S cnt L) := by
  obtain ⟨g1, g2, g3, g4, g5, g6, g7, g8, g9⟩ := hG
  refine ⟨by rw [rdS_n _ _ _ (by decide)]; exact g1, by rw [rdS_n _ _ _ (by decide)]; exact g2, by rw [rdS_n _ _ _ (by decide)]; exact g3, by rw [rdS_n _ _ _ (by decide)]; exact g4, by rw [rdS_n _ _ _ (by decide)]; exact g5, by rw [rdS_6]; exact ⟨h1, h8⟩, fun i hi => ?_, fun v hv => ?_, fun v hv => ?_⟩
  · rw [rdS_6] at hi
    rw [rdS_n _ _ _ (by decide)]
    exact hL i hi
  · rw [rdS_n _ _ _ (by decide)]
    exact g8 v hv
  · rw [rdS_n _ _ _ (by decide)]
    exact g9 v hv
theorem rdT_pos {t : Nat → Nat} {tm n : Nat} : ∀ d net i L, i ≤ tm → (rdT t tm n d net i L).1 = false → (rdT t tm n d net i L).2.1 ≤ tm := by
  intro d
  induction d with
  | zero => intro net i L hi _; exact (skB_le hi).2
  | succ d ih =>
    intro net i L hi
    have hpos := ntT_pos (t := t) (n := n) hi
    have hs := skB_le (t := t) hpos.1
    simp only [rdT]
    cases hok : (ntT t tm n i).1 with
    | false => intro _; exact hpos.1
    | true =>
      simp only
      cases h0 : decide (ahT t tm (ntT t tm n i).2.1 = 0) with
      | true => intro z; cases z
      | false =>
        simp only
        cases decide (ahT t tm (ntT t tm n i).2.1 = 59) with
        | true => exact ih _ _ _ (ahT_nx (of_decide_eq_false h0))
        | false => intro _; exact hs.2
theorem flt_neg : ∀ p, p < 91 → (-20 : Int32) - nI p ≤ 0 := by decide +kernel
theorem tc48 : (48 : Int32).toNatClampNeg = 48 := rfl
set_option maxHeartbeats 1000000 in
theorem op_read {I : KI} {J : KJ} {Q : KQ} {b : Nat} {post : Int32 → KI → KQ → Prop} (h : Rel I J Q b) (hp : ∀ r I4 Q4, (∀ p2 : Int32 → KI → Prop, (∀ I5, Rel I5 J Q4 b → p2 r I5) → wp_X11_read I4 Q4 287 p2) → post r I4 Q4) : wp_X10_read I Q 0 post := by
  obtain ⟨hR, π, hP, S, hs, m, hC⟩ := id h
  obtain ⟨c1, c2, c3, c4, ⟨a, ha, c5, c6⟩, hG, hb, hH⟩ := hC
  obtain ⟨⟨a0, a1, a2, a3, a4, a5, a6, a7, a8, a9, a10⟩, ⟨q1, -⟩, ⟨d1, d2, d3, d4, d5, d6, d7, d8, d9⟩, -, hM⟩ := id hR.1
  obtain ⟨tm, t1, t2, t3, t4⟩ := hR.2.2.1
  have h6 := hG.1
  obtain ⟨t, ht, ht2⟩ : ∃ t : Nat → Nat, (∀ j, j < tm → I 275 j = nI (t j) ∧ 32 ≤ t j ∧ t j ≤ 126) ∧ ∀ j, j < tm → I 299 j = nI (t j) := by
    have hcl : ∀ j, j < tm → I 275 j = nI (I 275 j).toNatClampNeg ∧ 32 ≤ (I 275 j).toNatClampNeg ∧ (I 275 j).toNatClampNeg ≤ 126 ∧ I 299 j = nI (I 275 j).toNatClampNeg := fun j hj => by
      obtain ⟨c, k1, k2, k3, k4⟩ := t4 j hj
      have e : (I 275 j).toNatClampNeg = c := by rw [k3]; exact nI_clamp (by omega)
      rw [e]
      exact ⟨k3, k1, k2, k4⟩
    exact ⟨fun j => (I 275 j).toNatClampNeg, fun j hj => ⟨(hcl j hj).1, (hcl j hj).2.1, (hcl j hj).2.2.1⟩, fun j hj => (hcl j hj).2.2.2⟩
  have mod : ∀ (I4 : KI) (Q4 : KQ) (p2 : Int32 → KI → Prop), MdQ Q4 → (∀ q, (q = 287 ∨ q = 288 ∨ q = 289 ∨ q = 299) → I4 q = I q) → ((rdT t tm (S.1 0) 8 0 0 (fun _ => 0)).1 = true → ∀ I5, (∀ q, (q < 287 ∨ q = 290 ∨ q = 299 ∨ q = 301 ∨ q = 302) → I5 q = I4 q) → (∀ j, j ≠ 1 → j ≠ 2 → j ≠ 20 → j ≠ 21 → j ≠ 22 → I5 287 j = I 287 j) → I5 287 20 = 0 → I5 287 1 = nI (keepN m) → I5 287 2 = nI ((a + 1) % 6) → RingIs (I5 289) (keepN m) ((a + 1) % 6) (keepH m hs S) → RowIs (I5 288) (rdS S (rdT t tm (S.1 0) 8 0 0 (fun _ => 0)).2.2.1 (rdT t tm (S.1 0) 8 0 0 (fun _ => 0)).2.2.2) → p2 (nI (rdT t tm (S.1 0) 8 0 0 (fun _ => 0)).2.2.1) I5) → ((rdT t tm (S.1 0) 8 0 0 (fun _ => 0)).1 = false → ∀ I5, (∀ q, q ≠ 287 → q ≠ 300 → I5 q = I4 q) → (∀ j, j ≠ 20 → j ≠ 21 → j ≠ 22 → I5 287 j = I 287 j) → I5 287 20 = 0 → p2 ((-20 : Int32) - nI (rdT t tm (S.1 0) 8 0 0 (fun _ => 0)).2.1) I5) → wp_X11_read I4 Q4 287 p2 := by
    intro I4 Q4 p2 hM4 hI4 hok hno
    obtain ⟨I0, hI0⟩ : ∃ I0, I0 = sti (sti I4 287 21 0) 287 22 0 := ⟨_, rfl⟩
    have e1 : ∀ q, q ≠ 287 → I0 q = I4 q := fun q hq => by rw [hI0, sti_ne _ _ _ hq, sti_ne _ _ _ hq]
    have e2 : ∀ j, j ≠ 21 → j ≠ 22 → I0 287 j = I 287 j := fun j j1 j2 => by rw [hI0, sti_at, pk_un j2, sti_at, pk_un j1, hI4 287 (by omega)]
    have hbz : TbZ I0 t tm (S.1 0) := ⟨t1, by rw [e2 20 (by decide) (by decide)]; exact t3, by rw [e1 288 (by decide), hI4 288 (by omega)]; exact c3.n, fun j hj => by rw [e1 299 (by decide), hI4 299 (by omega)]; exact ⟨ht2 j hj, (ht j hj).2⟩⟩
    unfold wp_X11_read wp_X11_reads
    rw [← hI0]
    refine ⟨10, lp_mreads hM4 hbz h6.1 h6.2 8 0 0 (fun _ => 0) I0 rfl ⟨fun _ _ _ => rfl, fun _ _ _ => rfl, by rw [hI0, sti_at, pk_us]; rfl, by rw [hI0, sti_at, pk_un (by decide), sti_at, pk_us]; rfl, fun x hx => absurd hx (Nat.not_lt_zero x)⟩ (Nat.zero_le _) (fun z I1 k g hk => ?_) (fun z I1 c L g hk => ?_)⟩
    · obtain ⟨r1, r2, r3⟩ := rdT_ok h6.1 h6.2 8 0 0 (fun _ => 0) rfl (fun x hx => absurd hx (Nat.not_lt_zero x)) z
      have rem : wp_X11_remembers (sti I1 287 20 (0 : Int32)) Q4 287 (fun I4 => (∃ q59, wp_X11_read_L59 Q4 287 p2 q59 (sti I4 (rq Q4 287 0) (6 : Int32).toNatClampNeg (I4 287 22)) (0 : Int32))) := by
        have f1 : ∀ q, q ≠ 287 → q ≠ 300 → sti I1 287 20 (0 : Int32) q = I4 q := fun q q1 q2 => by rw [sti_ne _ _ _ q1, g.1 q q1 q2, e1 q q1]
        have f2 : ∀ j, j ≠ 20 → j ≠ 21 → j ≠ 22 → sti I1 287 20 (0 : Int32) 287 j = I 287 j := fun j j1 j2 j3 => by rw [sti_at, pk_un j1, g.2.1 j j2 j3, e2 j j2 j3]
        refine ms_remembers hM4 (by rw [f1 288 (by decide) (by decide), hI4 288 (by omega)]; exact c3) hG hH (by rw [f2 1 (by decide) (by decide) (by decide)]; exact c4) (by rw [f2 2 (by decide) (by decide) (by decide)]; exact c5) c2.2.1 ha (by rw [f1 289 (by decide) (by decide), hI4 289 (by omega)]; exact c6) (fun I2 y1 y2 y3 y4 y5 => ⟨9, ?_⟩)
        have e22 : I2 287 22 = nI (rdT t tm (S.1 0) 8 0 0 (fun _ => 0)).2.2.1 := by rw [y2 22 (by decide) (by decide), sti_at, pk_un (by decide)]; exact g.2.2.1
        rw [hM4.now, show (6 : Int32).toNatClampNeg = 6 from rfl, e22]
        refine lp_mcopy (cnt := (rdT t tm (S.1 0) 8 0 0 (fun _ => 0)).2.2.1) (L := (rdT t tm (S.1 0) 8 0 0 (fun _ => 0)).2.2.2) hM4 r2 (by rw [sti_ne _ _ _ (by decide)]; exact e22) (fun x hx => by rw [sti_ne _ _ _ (by decide), y1 300 (by decide) (by decide), sti_ne _ _ _ (by decide)]; exact g.2.2.2.2 x hx) (fun I3 x1 x2 x3 => ?_) 8 0 _ rfl (fun _ _ => rfl) (fun _ _ => rfl) (fun x hx => absurd hx (Nat.not_lt_zero x))
        have k1 : ∀ q, q ≠ 287 → q ≠ 288 → q ≠ 289 → q ≠ 300 → I3 q = I4 q := fun q q1 q2 q3 q4 => by rw [x1 q q2, sti_ne _ _ _ q2, y1 q q1 q3, f1 q q1 q4]
        have k2 : ∀ j, I3 287 j = I2 287 j := fun j => by rw [x1 287 (by decide), sti_ne _ _ _ (by decide)]
        have k3 : ∀ j, j ≠ 6 → (j < 7 ∨ 15 ≤ j) → I3 288 j = I 288 j := fun j j1 j2 => by rw [x2 j j2, sti_at, pk_un j1, y1 288 (by decide) (by decide), f1 288 (by decide) (by decide), hI4 288 (by omega)]
        refine hok z I3 (fun q hq => k1 q (by omega) (by omega) (by omega) (by omega)) (fun j j1 j2 j3 j4 j5 => by rw [k2, y2 j j1 j2, f2 j j3 j4 j5]) (by rw [k2, y2 20 (by decide) (by decide), sti_at, pk_us]) (by rw [k2]; exact y3) (by rw [k2]; exact y4) (by rw [x1 289 (by decide), sti_ne _ _ _ (by decide)]; exact y5) ⟨fun i hi => ?_, fun i hi => ?_, fun v hv => ?_, fun v hv w hw => ?_⟩
        · by_cases hi6 : i = 6
          · subst hi6
            rw [rdS_6, x2 6 (by omega), sti_at, pk_us]
          · rw [rdS_n _ _ _ hi6, k3 i hi6 (by omega)]
            exact c3.1 i hi
        · rw [rdS_6] at hi
          exact x3 i hi
        · rw [k3 (15 + v) (by omega) (by omega)]
          exact c3.2.2.1 v hv
        · rw [k3 (21 + 8 * v + w) (by omega) (by omega)]
          exact c3.2.2.2 v hv w hw
      exact ⟨fun _ => ⟨fun _ => rem, fun y => absurd y (by decide)⟩, fun _ => ⟨fun _ => rem, fun y => absurd y (by decide)⟩⟩
    · have e20 : I1 287 20 = nI tm := by rw [g.2.1 20 (by decide) (by decide), e2 20 (by decide) (by decide)]; exact t3
      have e21 : I1 287 21 = nI (rdT t tm (S.1 0) 8 0 0 (fun _ => 0)).2.1 := g.2.2.2.1
      have fin := hno z (sti I1 287 20 0) (fun q q1 q2 => by rw [sti_ne _ _ _ q1, g.1 q q1 q2, e1 q q1]) (fun j j1 j2 j3 => by rw [sti_at, pk_un j1, g.2.1 j j2 j3, e2 j j2 j3]) (by rw [sti_at, pk_us])
      rw [e20, e21]
      refine ⟨fun y => ⟨fun y2 => absurd rfl y2, fun _ => ?_⟩, fun _ => ⟨fun y2 => absurd rfl y2, fun _ => fin⟩⟩
      have hle := (nI_leI (by omega) (by omega)).mp y
      have heq : (rdT t tm (S.1 0) 8 0 0 (fun _ => 0)).2.1 = tm := by omega
      rw [heq] at fin
      exact fin
  unfold wp_X10_read
  rw [a0, a1, a9, show I 1 3 = nI (S.1 0) from c1.1 0 (by omega)]
  refine sp_parse d7 d8 d9 t1 t2 ht h6.1 h6.2 (fun hok I1 w1 w2 w3 w4 => ?_) (fun hno I1 w1 w2 => ?_)
  · obtain ⟨r1, r2, r3⟩ := rdT_ok h6.1 h6.2 8 0 0 (fun _ => 0) rfl (fun x hx => absurd hx (Nat.not_lt_zero x)) hok
    generalize hcnt : (rdT t tm (S.1 0) 8 0 0 (fun _ => 0)).2.2.1 = cnt at r1 r2 r3 w3 w4 mod ⊢
    generalize hL : (rdT t tm (S.1 0) 8 0 0 (fun _ => 0)).2.2.2 = L at r3 w3 mod
    unfold wp_X8_empty
    have v1 : ∀ q, q ≠ 274 → q ≠ 276 → q ≠ 277 → sti I1 274 2 (0 : Int32) q = I q := fun q z1 z2 z3 => by rw [sti_ne _ _ _ z1, w1 q z1 z2 z3]
    refine ⟨fun z => ?_, fun _ => ?_⟩
    · have := nI_ne0 (show 0 < cnt by omega) (show cnt < 2 ^ 31 by omega)
      rw [Int32.le_iff_toInt_le, nI_toInt (by omega), show (0 : Int32).toInt = 0 from rfl] at z
      omega
    · refine sp_keep hP (c2.fr hP (fun k _ _ => v1 k (by omega) (by omega) (by omega))) q1 (c1.fr (fun k _ _ => v1 k (by omega) (by omega) (by omega))) hG.2.2.2.2.2.1.2 (by omega) (fun I2 Q2 π2 y1 y2 y3 y4 => ?_)
      have hQ2 := hR.1.fr y2
      obtain ⟨⟨b0, b1, b2, b3, b4, b5, b6, b7, b8, b9, b10⟩, ⟨p1, -⟩, ⟨l1, l2, l3, l4, l5, l6, l7, l8, l9⟩, -, hM2⟩ := id hQ2
      have i2 : ∀ q, (q < 18 ∨ 122 ≤ q) → q ≠ 274 → q ≠ 276 → q ≠ 277 → I2 q = I q := fun q z1 z2 z3 z4 => by rw [y1 q (by omega), v1 q z2 z3 z4]
      unfold wp_X4_take
      rw [b0, b9, l8, l9, p1.1, p1.2.1, tc0, tc48, cpi_ne I2 277 3 0 0 48 (by decide)]
      have e276 : I2 276 1 = nI cnt := by rw [y1 276 (by omega), sti_ne _ _ _ (by decide)]; exact w4
      rw [e276]
      obtain ⟨I4, hI4⟩ : ∃ I4, I4 = sti (cpi I2 277 3 0 0 48) 2 1 (nI cnt) := ⟨_, rfl⟩
      have f4 : ∀ q, q ≠ 2 → q ≠ 3 → I4 q = I2 q := fun q z1 z2 => by rw [hI4, sti_ne _ _ _ z1, cpi_ne _ _ _ _ _ _ z2]
      have f2 : I4 2 1 = nI cnt := by rw [hI4, sti_at, pk_us]
      have f3 : ∀ x, x < 48 → I4 3 x = I1 277 x := fun x hx => by rw [hI4, sti_ne _ _ _ (by decide), cpi_in _ _ _ _ _ _ (Nat.zero_le x) (by omega), show 0 + (x - 0) = x by omega, y1 277 (by omega), sti_ne _ _ _ (by decide)]
      show post (nI cnt) (sti (cpi I2 277 3 0 0 48) 2 1 (nI cnt)) Q2
      rw [← hI4]
      refine hp _ _ _ (fun p2 h2 => mod I4 Q2 p2 hM2 (fun q hq => by rw [f4 q (by omega) (by omega), i2 q (by omega) (by omega) (by omega) (by omega)]) (fun _ I5 g1 g2 g3 g4 g5 g6 g7 => h2 I5 ?_) (fun z => by rw [hok] at z; cases z))
      have s5 : ∀ q, (q < 18 ∨ 122 ≤ q) → (q < 287 ∨ q = 290 ∨ q = 299 ∨ q = 301 ∨ q = 302) → q ≠ 2 → q ≠ 3 → q ≠ 274 → q ≠ 276 → q ≠ 277 → I5 q = I q := fun q z1 z2 z3 z4 z5 z6 z7 => by rw [g1 q z2, f4 q z3 z4, i2 q z1 z5 z6 z7]
      refine ⟨hR.tp y2 (fun q hq => s5 q (by omega) (by omega) (by omega) (by omega) (by omega) (by omega) (by omega)) ?_ (fun j hj => g2 j (by omega) (by omega) (by omega) (by omega) (by omega)) g3, π2, y3, rdS S cnt L, keepH m hs S, keepN m, RelC.mk2 ?_ ?_ g7 g4 (show (a + 1) % 6 < 6 by omega) g5 g6 (hG.rd r1 r2 r3) (by rw [rdS_n _ _ _ (by decide)]; exact hb) (hH.keep hG hb c2.2.1)⟩
      · rw [g1 274 (by omega), f4 274 (by decide) (by decide), y1 274 (by omega), sti_at, pk_us]
      · obtain ⟨n1, n2, n3, n4, n5⟩ := c1
        refine ⟨fun i hi => ?_, ?_, fun i hi => ?_, fun v hv x hx => ?_, fun v hv => ?_⟩
        · rw [rdS_n _ _ _ (by omega), s5 1 (by omega) (by omega) (by omega) (by omega) (by omega) (by omega) (by omega)]
          exact n1 i hi
        · rw [rdS_6]
          show I5 2 1 = _
          rw [g1 2 (by omega)]
          exact f2
        · rw [rdS_6] at hi
          rw [rdS_n _ _ _ (by decide)]
          intro v hv
          show I5 3 (6 * i + v) = _
          rw [g1 3 (by omega), f3 (6 * i + v) (by omega)]
          exact w3 i hi v hv
        · rw [s5 (1 + 6 + 2 * v) (by omega) (by omega) (by omega) (by omega) (by omega) (by omega) (by omega)]
          exact n4 v hv x hx
        · rw [s5 (1 + 4) (by omega) (by omega) (by omega) (by omega) (by omega) (by omega) (by omega)]
          exact n5 v hv
      · exact y4.fr y3 (fun q z1 z2 => by rw [g1 q (by omega), f4 q (by omega) (by omega)])
  · have hle := rdT_pos (t := t) (tm := tm) (n := S.1 0) 8 0 0 (fun _ => 0) (Nat.zero_le _) hno
    generalize hpos : (rdT t tm (S.1 0) 8 0 0 (fun _ => 0)).2.1 = pos at mod hle ⊢
    unfold wp_X8_empty
    refine ⟨fun _ => hp _ _ _ (fun p2 h2 => mod _ Q p2 hM (fun q hq => by rw [sti_ne _ _ _ (by omega), w1 q (by omega) (by omega) (by omega)]) (fun z => by rw [hno] at z; cases z) (fun _ I5 g1 g2 g3 => h2 I5 ?_)), fun z => ?_⟩
    · have s5 : ∀ q, q ≠ 274 → q ≠ 276 → q ≠ 277 → q ≠ 287 → q ≠ 300 → I5 q = I q := fun q z1 z2 z3 z4 z5 => by rw [g1 q z4 z5, sti_ne _ _ _ z1, w1 q z1 z2 z3]
      refine ⟨hR.tp (fun _ _ => rfl) (fun q hq => s5 q (by omega) (by omega) (by omega) (by omega) (by omega)) ?_ (fun j hj => g2 j (by omega) (by omega) (by omega)) g3, π, hP, S, hs, m, RelC.mk2 (c1.fr (fun k _ _ => s5 k (by omega) (by omega) (by omega) (by omega) (by omega))) (c2.fr hP (fun k _ _ => s5 k (by omega) (by omega) (by omega) (by omega) (by omega))) (by rw [s5 288 (by decide) (by decide) (by decide) (by decide) (by decide)]; exact c3) (by rw [g2 1 (by decide) (by decide) (by decide)]; exact c4) ha (by rw [g2 2 (by decide) (by decide) (by decide)]; exact c5) (by rw [s5 289 (by decide) (by decide) (by decide) (by decide) (by decide)]; exact c6) hG hb hH⟩
      rw [g1 274 (by decide) (by decide), sti_at, pk_us]
    · exact absurd (flt_neg pos (by omega)) z
