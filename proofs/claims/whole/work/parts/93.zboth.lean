/-! both sides at token k -/
/-- the class stands at token k, the other side's point before it -/
def BT (N : NM) (I J : IM) (b : Nat → Nat) (L n : Nat) (st E : Nat → Nat) (k : Nat) : Prop := TC N I b L n st E k ∧ MBy J b L ∧ ∃ q, J 1528 9 = nI q ∧ E k ≤ q ∧ q ≤ st k
section BOTH
variable {k n L q s e r t i c x : Nat} {b st E : Nat → Nat} {I I' : IM} {N N' K : NM} {J J' : IM} {W : Nat → Int32}
theorem pt_row (J : IM) (W : Nat → Int32) (q r : Nat) : pt (rowI J 1529 W) q r = rowI (pt J q r) 1529 W := by
  unfold pt
  rw [u2_rowc (by omega), u2_rowc (by omega)]
theorem BT.stay (h : BT N I J b L n st E k) : BT N I (pt J (st k) (st k)) b L n st E k :=
  ⟨h.1, h.2.1.pt _ _, st k, pt_9 _ _ _, (h.1.2.1.2.1 k h.1.2.2.1.2.2).1, Nat.le_refl _⟩
theorem BT.next (h : BT N I J b L n st E k) (hk : k < n) : BT N (u2 I 1003 6 (nI (k + 1))) (pt J (E (k + 1)) (st k)) b L n st E (k + 1) :=
  ⟨h.1.at (by omega), h.2.1.pt _ _, E (k + 1), pt_9 _ _ _, Nat.le_refl _, (h.1.2.1.2.1 (k + 1) (by omega)).1⟩
/-- the other side tries a word -/
theorem BT.word (h : BT N I J b L n st E k) (hm : MN K) (hw : wdB r i = true) : F_Mo_passes 1528 r (J, K) = some (if k < n ∧ kR N 1004 k = i + 1 then (1, (pt J (E (k + 1)) (st k), K)) else (0, (pt J (st k) (st k), K))) := by
  obtain ⟨h1, h2, q, e9, q1, q2⟩ := h
  obtain ⟨w1, w2⟩ := Bool.and_eq_true_iff.mp hw
  obtain ⟨w2, w3⟩ := Bool.and_eq_true_iff.mp w2
  obtain ⟨a1, a2, a3, a4, a5, a6⟩ := of_decide_eq_true w2
  rw [m_passes hm h2 h1.2.1 h1.2.2.1.2.2 q1 q2 e9 ⟨a3, a4⟩ ⟨a1, a2⟩, tok_wd h1 hw]
  by_cases c : k < n ∧ kR N 1004 k = i + 1
  · rw [if_pos c, decide_eq_true c, if_pos rfl]
  · rw [if_neg c, decide_eq_false c, if_neg Bool.false_ne_true]
/-- the other side tries a sign -/
theorem BT.sign (h : BT N I J b L n st E k) (hm : MN K) (hw : sgB c i = true) : F_Mo_sign 1528 (nI c) (J, K) = some (if k < n ∧ kR N 1004 k = i + 1 then (1, (pt J (E (k + 1)) (st k), K)) else (0, (pt J (st k) (st k), K))) := by
  obtain ⟨h1, h2, q, e9, q1, q2⟩ := h
  obtain ⟨a1, a2, a3, a4, a5, a6⟩ := of_decide_eq_true hw
  rw [m_sign hm h2 h1.2.1 h1.2.2.1.2.2 q1 q2 e9 a4]
  have := tok_sg h1 hw
  by_cases z : k < n ∧ kR N 1004 k = i + 1
  · have z' := this.mpr z
    rw [if_pos z, if_pos z', (h1.2.1.2.2 k z.1).2.2.1 (by rw [z'.2]; exact a3)]
  · rw [if_neg z, if_neg (fun y => z (this.mp y))]
end BOTH
