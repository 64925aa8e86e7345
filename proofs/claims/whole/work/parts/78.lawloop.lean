/-! PURE, 41: the law's calls -/
theorem end_iff {L i : Nat} (hL : L ≤ 3072) (hi : i < 2 ^ 20) : (Int32.ofNat L - (6 : Int32)) < nI i ↔ L < i + 6 := by
  rw [Int32.lt_iff_toInt_lt, show Int32.ofNat L - (6 : Int32) = nI L - nI 6 from rfl, pk_sub_toInt (by omega) (by decide), nI_toInt (by omega)]
  omega
set_option maxHeartbeats 4000000 in
theorem lp_law {L : Nat} {xs : Nat → Int32} (hL : L ≤ 3072) : ∀ d i b I J Q, L < i + 6 * d + 6 → i < 6000 → b ≤ 100 * i → Rel I J Q b → wp_law_L18 0 287 L xs (d + 1) I J Q (nI i) := by
  intro d
  induction d with
  | zero =>
    intro i b I J Q h1 h2 h3 h
    unfold wp_law_L18
    exact br_t ((end_iff hL (by omega)).mpr (by omega)) trivial
  | succ d ih =>
    intro i b I J Q h1 h2 h3 h
    unfold wp_law_L18
    refine ⟨fun _ => trivial, fun c => ?_⟩
    have hi : i + 6 ≤ L := by
      have : ¬ L < i + 6 := fun z => c ((end_iff hL (by omega)).mpr z)
      omega
    have nx : ∀ I' J' Q', Rel I' J' Q' b → wp_law_L18 0 287 L xs (d + 1) I' J' Q' (nI i + (6 : Int32)) := fun I' J' Q' hr => by
      rw [show nI i + (6 : Int32) = nI (i + 6) from nI_add i 6]
      exact ih (i + 6) b I' J' Q' (by omega) (by omega) (by omega) hr
    have nx2 : ∀ I' J' Q', Rel I' J' Q' (b + 100) → wp_law_L18 0 287 L xs (d + 1) I' J' Q' (nI i + (6 : Int32)) := fun I' J' Q' hr => by
      rw [show nI i + (6 : Int32) = nI (i + 6) from nI_add i 6]
      exact ih (i + 6) (b + 100) I' J' Q' (by omega) (by omega) (by omega) hr
    have v0 : vp_in (nI i) L := vp_in_nI (by omega) (by omega)
    have v1 : vp_in (nI i + (1 : Int32)) L := by rw [nI_1]; exact vp_in_nI (by omega) (by omega)
    have v2 : vp_in (nI i + (2 : Int32)) L := by rw [show nI i + (2 : Int32) = nI (i + 2) from nI_add i 2]; exact vp_in_nI (by omega) (by omega)
    have v3 : vp_in (nI i + (3 : Int32)) L := by rw [show nI i + (3 : Int32) = nI (i + 3) from nI_add i 3]; exact vp_in_nI (by omega) (by omega)
    have v4 : vp_in (nI i + (4 : Int32)) L := by rw [show nI i + (4 : Int32) = nI (i + 4) from nI_add i 4]; exact vp_in_nI (by omega) (by omega)
    have v5 : vp_in (nI i + (5 : Int32)) L := by rw [show nI i + (5 : Int32) = nI (i + 5) from nI_add i 5]; exact vp_in_nI (by omega) (by omega)
    refine ⟨v0, fun _ => ⟨v1, v2, op_put h (fun r I4 Q4 hm => ⟨v1, v2, hm _ (fun I5 hr => ⟨fun _ => nx I5 J Q4 hr, fun z => z rfl⟩)⟩)⟩, fun _ => ⟨v1, v2, op_node h (by omega) (fun r I4 hm => ⟨v1, v2, hm _ (fun I5 hr => ⟨fun _ => nx I5 J Q hr, fun z => z rfl⟩)⟩)⟩, fun _ => ⟨v1, v2, op_sum h (fun r hm => ⟨v1, v2, hm _ ⟨fun _ => nx I J Q h, fun z => z rfl⟩⟩)⟩, fun _ => ⟨v1, v2, op_knows h (fun r hm => ⟨v1, v2, hm _ ⟨fun _ => nx I J Q h, fun z => z rfl⟩⟩)⟩, fun _ => ⟨v1, op_sends h (by omega) (fun r I4 hm => ⟨v1, hm _ (fun I5 hr => ⟨fun _ => nx I5 J Q hr, fun z => z rfl⟩)⟩)⟩, fun _ => ⟨v1, v2, op_linked h (fun r hm => ⟨v1, v2, hm _ ⟨fun _ => nx I J Q h, fun z => z rfl⟩⟩)⟩, fun _ => ⟨v1, op_count h (fun r hm => ⟨v1, hm _ ⟨fun _ => nx I J Q h, fun z => z rfl⟩⟩)⟩, fun _ => ⟨v1, op_go h (by omega) (fun r I4 Q4 hm => ⟨v1, hm _ (fun I5 hr => ⟨fun _ => nx2 I5 J Q4 hr, fun z => z rfl⟩)⟩)⟩, fun _ => ⟨v1, op_gain h (by omega) (fun r I4 hm => ⟨v1, hm _ (fun I5 hr => ⟨fun _ => nx I5 J Q hr, fun z => z rfl⟩)⟩)⟩, fun _ => op_foreseen h (by omega) (fun r I4 hm => hm _ (fun I5 hr => ⟨fun _ => nx I5 J Q hr, fun z => z rfl⟩)), fun _ => ⟨v1, op_views h (by omega) (fun r I4 hm => ⟨v1, hm _ (fun I5 hr => ⟨fun _ => nx I5 J Q hr, fun z => z rfl⟩)⟩)⟩, fun _ => ⟨v1, v2, op_view h (by omega) (fun r I4 hm => ⟨v1, v2, hm _ (fun I5 hr => ⟨fun _ => nx I5 J Q hr, fun z => z rfl⟩)⟩)⟩, fun _ => ⟨v1, v2, op_joined h (by omega) (fun r J4 hm => ⟨v1, v2, hm _ (fun J5 hr => ⟨fun _ => nx I J5 Q hr, fun z => z ((lg_cmp_eq r r).mpr rfl)⟩)⟩)⟩, fun _ => ⟨v1, v2, op_tell h (fun r I4 Q4 hm => ⟨v1, v2, hm _ (fun I5 hr => ⟨fun _ => nx I5 J Q4 hr, fun z => z rfl⟩)⟩)⟩, fun _ => ⟨v1, op_type h (fun r I4 hm => ⟨v1, hm _ (fun I5 hr => ⟨fun _ => nx I5 J Q hr, fun z => z rfl⟩)⟩)⟩, fun _ => op_read h (fun r I4 Q4 hm => hm _ (fun I5 hr => ⟨fun _ => nx I5 J Q4 hr, fun z => z rfl⟩)), fun _ => ⟨v1, op_drift h (by omega) (fun r I4 Q4 hm => ⟨v1, hm _ (fun I5 hr => ⟨fun _ => nx2 I5 J Q4 hr, fun z => z rfl⟩)⟩)⟩, fun _ => op_undo h (fun r I4 hm => hm _ (fun I5 hr => ⟨fun _ => nx I5 J Q hr, fun z => z rfl⟩)), fun _ => ⟨v1, op_seed h (fun r I4 hm => ⟨v1, hm _ (fun I5 hr => ⟨fun _ => nx I5 J Q hr, fun z => z rfl⟩)⟩)⟩, fun _ => op_image h (fun r I4 hm => hm _ (fun I5 hr => ⟨fun _ => nx I5 J Q hr, fun z => z rfl⟩)), fun _ => op_restore h (fun r I4 hm => hm _ (fun I5 hr => ⟨fun _ => nx I5 J Q hr, fun z => z rfl⟩)), fun _ => ⟨v1, v2, v3, op_could h (by omega) (fun r I4 hm hr => ⟨v1, v2, v3, hm _ ⟨fun _ => nx I4 J Q hr, fun z => z rfl⟩⟩)⟩, fun _ => ⟨v1, v2, v3, v4, op_film h (fun r J4 hm => ⟨v1, v2, v3, v4, hm _ (fun J5 hr => ⟨fun _ => nx I J5 Q hr, fun z => z rfl⟩)⟩)⟩, fun _ => ⟨v1, v2, v3, op_sheet h (fun r I4 J4 hm => ⟨v1, v2, v3, hm _ (fun I5 J5 hr => ⟨fun _ => nx I5 J5 Q hr, fun z => z rfl⟩)⟩)⟩, fun _ => ⟨v1, op_drop h (fun r I4 hm => ⟨v1, hm _ (fun I5 hr => ⟨fun _ => nx I5 J Q hr, fun z => z rfl⟩)⟩)⟩, fun _ => ⟨v1, v2, v3, v4, v5, op_item h (fun r J4 hm => ⟨v1, v2, v3, v4, v5, hm _ (fun J5 hr => ⟨fun _ => nx I J5 Q hr, fun z => z rfl⟩)⟩)⟩, fun _ => ⟨v1, v2, v3, v4, v5, op_copy h (fun r J4 hm => ⟨v1, v2, v3, v4, v5, hm _ (fun J5 hr => ⟨fun _ => nx I J5 Q hr, fun z => z rfl⟩)⟩)⟩, fun _ _ _ _ _ _ _ _ _ _ _ _ _ _ _ _ _ _ _ _ _ _ _ _ _ _ _ => nx I J Q h⟩
theorem law_all {L : Nat} {xs : Nat → Int32} (hL : L ≤ 3072) {I : KI} {J : KJ} {Q : KQ} (h : Rel I J Q 0) : wp_law I J Q L xs := ⟨600 + 1, lp_law hL 600 0 0 I J Q (by omega) (by decide) (by omega) h⟩
