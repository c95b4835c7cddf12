/-! a list of gates read by both -/
section ROAD2
variable {k n L q s e r t i c x d g w : Nat} {b st E : Nat → Nat} {I I' : IM} {N N' K : NM} {J J' : IM} {W W' : Nat → Int32}
/-- the other side's number, its world a row -/
theorem m_numR (h : BT N I J b L n st E k) (hm : MN K) (top : Int32) : F_Mo_number 1528 0 top (rowI J 1529 W, K) = some (nuV b st E n k 3 top, (rowI (pt J (fE b st E n k) (st k)) 1529 W, K)) := by
  have h' : BT N I (rowI J 1529 W) b L n st E k := by
    obtain ⟨h1, ⟨⟨h2, h3⟩, h4⟩, q, h5, h6⟩ := h
    exact ⟨h1, ⟨⟨by rw [rw_n _ _ (by omega)]; exact h2, h3⟩, fun k hk => ⟨(h4 k hk).1, by rw [rw_n _ _ (by omega)]; exact (h4 k hk).2⟩⟩, q, by rw [rw_n _ _ (by omega)]; exact h5, h6⟩
  unfold F_Mo_number
  rw [ck_tt (show qS (rowI J 1529 W, K) 1528 = 19 from mo_k hm), show (3 : Int32) = nI 3 from rfl, h'.figM hm (show 3 ≤ 4 by omega), Option.bind_some, pt_row]
theorem BT.toRow (h : BT N I J b L n st E k) : BT N I (rowI J 1529 W) b L n st E k := by
  obtain ⟨h1, ⟨⟨h2, h3⟩, h4⟩, q, h5, h6⟩ := h
  exact ⟨h1, ⟨⟨by rw [rw_n _ _ (by omega)]; exact h2, h3⟩, fun k hk => ⟨(h4 k hk).1, by rw [rw_n _ _ (by omega)]; exact (h4 k hk).2⟩⟩, q, by rw [rw_n _ _ (by omega)]; exact h5, h6⟩
theorem m_blkR (h : BT N I J b L n st E k) (hm : MN K) : F_Mo_blanks 1528 (rowI J 1529 W, K) = some (rowI (pt J (st k) (st k)) 1529 W, K) := by
  obtain ⟨h1, h2, q, e9, q1, q2⟩ := h.toRow (W := W)
  rw [m_blanks hm h2 h1.2.1 h1.2.2.1.2.2 q1 q2 e9, pt_row]
/-- is a figure there -/
theorem m_digR (h : BT N I J b L n st E k) (hm : MN K) : F_Mo_isAt 1528 48 57 (rowI (pt J (st k) (st k)) 1529 W, K) = some (if k < n ∧ kR N 1004 k = 1 then 1 else 0) := by
  have h' := h.stay.toRow (W := W)
  have hk := h.1.2.2.1.2.2
  have hT := h.1.2.1
  rw [m_isAt hm h'.2.1 (hT.st_le hk) (by rw [rw_n _ _ (by omega), pt_9])]
  refine congrArg some ?_
  have key : (st k < L ∧ (48 : Int32) ≤ rowI (pt J (st k) (st k)) 1529 W 1533 (st k) ∧ rowI (pt J (st k) (st k)) 1529 W 1533 (st k) ≤ 57) ↔ (k < n ∧ kR N 1004 k = 1) := by
    constructor
    · rintro ⟨z1, z2⟩
      have hk' := (hT.st_lt hk).mp z1
      obtain ⟨hx, ex⟩ := h'.2.1.2 (st k) z1
      rw [ex] at z2
      exact ⟨hk', (tk_num (h.1.2.2.2.2.2.1 k hk') (h.1.lt hk').1).mpr ((by_srt _ hx).2.2.mp z2)⟩
    · rintro ⟨z1, z2⟩
      have hl := (hT.st_lt hk).mpr z1
      obtain ⟨hx, ex⟩ := h'.2.1.2 (st k) hl
      rw [ex]
      exact ⟨hl, (by_srt _ hx).2.2.mpr ((tk_num (h.1.2.2.2.2.2.1 k z1) (h.1.lt z1).1).mp z2)⟩
  by_cases c : k < n ∧ kR N 1004 k = 1
  · rw [if_pos c, if_pos (key.mpr c)]
  · rw [if_neg c, if_neg (fun z => c (key.mp z))]
end ROAD2
