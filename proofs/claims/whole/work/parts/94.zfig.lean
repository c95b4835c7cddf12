/-! a number read by both -/
section FIG
variable {k n L q s e r t i c x d : Nat} {b st E : Nat → Nat} {I I' : IM} {N N' K : NM} {J J' : IM} {W : Nat → Int32}
def nuV (b st E : Nat → Nat) (n k d : Nat) (top : Int32) : Int32 := fgN b (st k) (fE b st E n k) d top
theorem nuV_lt {top : Int32} (h : 0 ≤ nuV b st E n k d top) : k < n ∧ fE b st E n k = E (k + 1) := by
  unfold nuV fgN at h
  by_cases c : k < n ∧ srt (b (st k)) = 2
  · unfold fE; rw [if_pos c]; exact ⟨c.1, rfl⟩
  · unfold fE at h
    rw [if_neg c, if_pos (Or.inl rfl)] at h
    exact absurd h (by decide)
theorem BT.figM (h : BT N I J b L n st E k) (hm : MN K) (hd : d ≤ 4) (top : Int32) : F_Mo_figures 1528 0 top (nI d) (J, K) = some (nuV b st E n k d top, (pt J (fE b st E n k) (st k), K)) := by
  obtain ⟨h1, h2, q, e9, q1, q2⟩ := h
  exact m_fig hm h2 h1.2.1 h1.2.2.1.2.2 q1 q2 e9 (by omega) top
theorem BT.figC (h : BT N I J b L n st E k) (hs : Shp N) (hd : d ≤ 4) (top : Int32) : F_Text_number 1003 (nI d) top (I, N) = some (nuV b st E n k d top, if 0 ≤ nuV b st E n k d top then (u2 I 1003 6 (nI (k + 1)), N) else (I, N)) := c_number hs h.1 hd top
/-- a number that is read: both stand at the next token -/
theorem BT.figN (h : BT N I J b L n st E k) {top : Int32} (hn : 0 ≤ nuV b st E n k d top) : BT N (u2 I 1003 6 (nI (k + 1))) (pt J (fE b st E n k) (st k)) b L n st E (k + 1) := by
  obtain ⟨h1, h2⟩ := nuV_lt hn
  rw [h2]
  exact h.next h1
end FIG
