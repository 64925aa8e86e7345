/-! PURE, 45: all -/
theorem Gs_SI : Gs SI := ⟨⟨show 2 ≤ 4 by decide, show 4 ≤ 6 by decide⟩, ⟨show 1 ≤ 4 by decide, show 4 ≤ 8 by decide⟩, show 0 ≤ 3 by decide, ⟨show 1 ≤ 1 by decide, show 1 ≤ 9 by decide⟩, show 1 < 2 ^ 31 by decide, ⟨show 1 ≤ 1 by decide, show 1 ≤ 8 by decide⟩, fun _ _ => ptT_lt 4 (by decide), fun _ _ => z0_ok _, fun _ _ => Nat.two_pow_pos _⟩
theorem pure_all {L : Nat} {xs : Nat → Int32} (hL : L ≤ 3072) : wp_start L xs := by
  refine ⟨by decide +kernel, sp_cls_init (fun I J Q c0 c1 c18 c274 crow hC p18 p139 => ⟨by decide +kernel, ?_⟩)⟩
  have frC : ∀ Q' : KQ, (∀ k, k < 287 → Q' k = Q k) → ClQ Q' := fun Q' hf => by
    obtain ⟨⟨a0, a1, a2, a3, a4, a5, a6, a7, a8, a9, a10⟩, ⟨n1, n2, n3, r1, r2, r3, r4⟩, ⟨d1, d2, d3, d4, d5, d6, d7, d8, d9⟩, hr⟩ := hC
    have r : ∀ {k : Nat} (j : Nat), k < 287 → rq Q' k j = rq Q k j := fun {k} j hk => rq_fr (hf k hk) j
    refine ⟨⟨?_, ?_, ?_, ?_, ?_, ?_, ?_, ?_, ?_, ?_, ?_⟩, ⟨n1.fr (fun k _ _ => hf k (by omega)), n2.fr (fun k _ _ => hf k (by omega)), n3.fr (fun k _ _ => hf k (by omega)), ?_, ?_, ?_, ?_⟩, ⟨?_, ?_, ?_, ?_, ?_, ?_, ?_, ?_, ?_⟩, fun s hs => ⟨?_, ?_⟩⟩
    all_goals first
      | (rw [r _ (by decide)]; assumption)
      | skip
    · rw [r _ (by decide)]; exact (hr s hs).1
    · rw [r _ (by omega)]; exact (hr s hs).2
  have fr18 : ∀ Q' : KQ, (∀ k, k < 287 → Q' k = Q k) → PastQ Q' 18 (fun i => 18 + 2 + 17 * i) := fun Q' hf => p18.fr (fun k _ _ => hf k (by omega))
  have fr139 : ∀ Q' : KQ, (∀ k, k < 287 → Q' k = Q k) → PastQ Q' 139 (fun i => 139 + 2 + 17 * i) := fun Q' hf => p139.fr (fun k _ _ => hf k (by omega))
  refine sp_ref_init (fun Q' hf hM => wf_all (frC Q' hf) (fr18 Q' hf) (fr139 Q' hf) hM) (fun I' J' Q' w1 w2 hM w3 w4 w5 => ?_)
  obtain ⟨k1, k2, k3, k4⟩ := frC Q' w2
  refine ⟨_, wf_all (frC Q' w2) (fr18 Q' w2) (fr139 Q' w2) hM, ⟨(by decide), (by decide), by decide +kernel⟩, ⟨(by decide), (by decide), by decide +kernel⟩, law_all hL ?_⟩
  refine ⟨⟨⟨k1, k2, k3, k4, hM⟩, ⟨_, fr139 Q' w2, Or.inl ⟨by rw [w1 0 (by decide)]; exact c0, w4 4⟩⟩, ⟨0, by decide, by rw [w1 274 (by decide)]; exact c274, w4 20, fun j hj => absurd hj (Nat.not_lt_zero j)⟩, fun s hs => Or.inl ⟨by rw [w1 (279 + 2 * s) (by omega)]; exact crow s hs, w5 s hs⟩⟩, _, fr18 Q' w2, SI, fun _ => SI, 0, RelC.mk2 (c1.fr (fun k _ _ => w1 k (by omega))) ⟨by rw [w1 18 (by decide)]; exact c18, by decide, fun i hi => absurd hi (Nat.not_lt_zero i)⟩ w3 (w4 1) (show 0 < 6 by decide) (w4 2) (fun i hi => absurd hi (Nat.not_lt_zero i)) Gs_SI (Nat.le_refl 0) (fun i hi => absurd hi (Nat.not_lt_zero i))⟩
