/-! the class's token and the other side's word -/
def wdB (r i : Nat) : Bool := decide (sBy (r - 100) = sBy (100 + tokS.getD i 0 - 100)) && (decide (1 ≤ wl r ∧ wl r ≤ 12 ∧ 100 ≤ r ∧ r < 181 ∧ 4 ≤ i ∧ i < 36) && alB (fun x => decide (nI x ≠ wc r 0 ∨ srt x = 1)) 256)
def wdT : List (Nat × Nat) := [(139, 10), (140, 16), (141, 18), (142, 19), (143, 20), (144, 22), (145, 21), (146, 30), (147, 31), (148, 32), (149, 33), (150, 34), (151, 35), (152, 28), (153, 29), (154, 27), (155, 26), (156, 23), (157, 24), (158, 25), (133, 11), (134, 12), (135, 13), (136, 14), (137, 15), (138, 17)]
theorem wdT_ok : wdT.all (fun q => wdB q.1 q.2) = true := by decide +kernel
theorem wdT_at {r i : Nat} (h : (r, i) ∈ wdT) : wdB r i = true := List.all_eq_true.mp wdT_ok (r, i) h
def sgT : List (Nat × Nat) := [(59, 4), (40, 5), (41, 6), (43, 7), (60, 8), (62, 9)]
def sgB (c i : Nat) : Bool := decide (wl (100 + tokS.getD i 0) = 1 ∧ wc (100 + tokS.getD i 0) 0 = nI c ∧ srt c = 3 ∧ c < 64 ∧ 4 ≤ i ∧ i < 36)
theorem sgT_ok : sgT.all (fun q => sgB q.1 q.2) = true := by decide +kernel
theorem sgT_at {r i : Nat} (h : (r, i) ∈ sgT) : sgB r i = true := List.all_eq_true.mp sgT_ok (r, i) h
section BRIDGE2
variable {k n L q s e r t i c : Nat} {b st E : Nat → Nat} {I I' : IM} {N N' : NM}
theorem TC.lt (h : TC N I b L n st E k) (hq : q < n) : st q < E (q + 1) ∧ E (q + 1) ≤ L ∧ b (st q) < 256 := by
  obtain ⟨h1, h2, h3⟩ := (h.2.1.2.2 q hq).1
  exact ⟨h1, h2, (h.1.2 _ (by omega)).1⟩
theorem tok_wd (h : TC N I b L n st E k) (hw : wdB r i = true) : isW b st E n k r = decide (k < n ∧ kR N 1004 k = i + 1) := by
  obtain ⟨w1, w2⟩ := Bool.and_eq_true_iff.mp hw
  obtain ⟨w2, w3⟩ := Bool.and_eq_true_iff.mp w2
  have w1 := of_decide_eq_true w1
  obtain ⟨a1, a2, a3, a4, a5, a6⟩ := of_decide_eq_true w2
  have hlet : ∀ x, x < 256 → nI x = wc r 0 → srt x = 1 := fun x hx e => by
    rcases of_decide_eq_true (alB_iff.mp w3 x hx) with z | z
    · exact absurd e z
    · exact z
  by_cases hk : k < n
  · obtain ⟨l1, l2, l3⟩ := h.lt hk
    rw [wd_iff h.2.1 hk l3 w1 a1 hlet]
    have := tk_iff (h.2.2.2.2.2.1 k hk) l1 l3 a6 a5
    by_cases c : kR N 1004 k = i + 1
    · rw [this.mp c, decide_eq_true ⟨hk, c⟩]
    · rw [decide_eq_false (fun z => c z.2)]
      cases z : tkP b (st k) (E (k + 1)) i with
      | false => rfl
      | true => exact absurd (this.mpr z) c
  · rw [decide_eq_false (fun z => hk z.1)]
    cases z : isW b st E n k r with
    | false => rfl
    | true => exact absurd (isW_lt z a1).1 hk
theorem tok_sg (h : TC N I b L n st E k) (hw : sgB c i = true) : (k < n ∧ b (st k) = c) ↔ (k < n ∧ kR N 1004 k = i + 1) := by
  obtain ⟨a1, a2, a3, a4, a5, a6⟩ := of_decide_eq_true hw
  refine and_congr_right fun hk => ?_
  obtain ⟨l1, l2, l3⟩ := h.lt hk
  rw [tk_iff (h.2.2.2.2.2.1 k hk) l1 l3 a6 a5]
  constructor
  · intro e
    have hE := (h.2.1.2.2 k hk).2.2.1 (by rw [e]; exact a3)
    unfold tkP spl
    rw [hE, show st k + 1 - st k = 1 by omega, a1, decide_eq_true rfl, Bool.true_and, alB_iff]
    intro x hx
    rw [show x = 0 by omega, Nat.add_zero, e, a2]
    exact decide_eq_true rfl
  · intro e
    have := (spl_at e).2 0 (by omega)
    rw [Nat.add_zero, a2] at this
    exact (nI_eq (by omega) (by omega)).mp this
end BRIDGE2
