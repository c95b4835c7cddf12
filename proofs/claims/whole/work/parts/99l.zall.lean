/-! every script of at most 3072 ints -/
theorem all_ok {L : Nat} {xs : Nat → Int32} (hL : L ≤ 3072) : ∃ M, F_L_main L xs m0 = some (1, M) :=
  main_ok (fun _ _ _ _ ⟨_, _, _, _, _, _, _, _, h⟩ => op_road h) (fun _ _ _ _ ⟨_, _, _, _, _, _, _, _, h⟩ => op_law h) hL
