/-! the law's loop -/
theorem loop_ok (hroad : ∀ N I K J, INV2 N I K J → E2 (F_RR_road 1000 (I, N)) (F_Mo_road 1528 (J, K)) (Ex trR N I K J)) (hlaw : ∀ N I K J, INV2 N I K J → E2 (F_RR_law 1000 (I, N)) (F_Mo_law 1528 (J, K)) (Ex trL N I K J)) {L : Nat} {xs : Nat → Int32} (hL : L ≤ 3072) {M : Mem} (hst : St M) : E1 (loopN LIM (F_L_body 1000 1528 1537 L xs) ((0 : Int32), M)) (fun r => r.1 = 1) := by
  refine lq1 (fun i s => ∃ M, s = (nI (6 * i), M) ∧ St M) _ 513 (lim_lt (by omega)) (Nat.zero_le _) ⟨M, rfl, hst⟩ ?_ ?_
  · rintro i s hi ⟨M1, rfl, h1⟩
    refine (body_ok hroad hlaw hL (m := 6 * i) (by omega) h1).imp ?_
    rintro r (⟨⟨M2, rfl, h2⟩, -⟩ | ⟨M2, rfl⟩)
    · exact ⟨M2, Prod.ext (nI_add (6 * i) 6) rfl, h2⟩
    · rfl
  · rintro s ⟨M1, rfl, h1⟩
    refine (body_ok hroad hlaw hL (m := 6 * 513) (by omega) h1).imp ?_
    rintro r (⟨⟨M2, rfl, h2⟩, h3⟩ | ⟨M2, rfl⟩)
    · omega
    · rfl
