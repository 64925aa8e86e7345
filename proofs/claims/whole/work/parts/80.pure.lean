theorem pure_all {L : Nat} {xs : Nat → Int32} (hL : L ≤ 3072) : wp_start L xs := by
  sorry
