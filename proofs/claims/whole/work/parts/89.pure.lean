theorem law_pure (xs : Nat → Int32) (L : Nat) (hL : L ≤ 3072) : fL_law_18 xs L 4096 0 (fun _ _ => 0) = some 1 :=
  law_loop xs L hL 4096 0 (fun _ _ => 0) (Nat.zero_le L) (by omega) rel_zero
