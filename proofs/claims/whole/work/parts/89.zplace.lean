/-! the class's readers at token k -/
def TC (N : NM) (I : IM) (b : Nat → Nat) (L n : Nat) (st E : Nat → Nat) (k : Nat) : Prop :=
  TBy I b L ∧ TKn b L n st E ∧ (I 1003 5 = nI n ∧ I 1003 6 = nI k ∧ k ≤ n) ∧ (∀ k, k ≤ n → I 1005 k = nI (st k)) ∧ (∀ k, k < n → I 1006 k = nI (E (k + 1))) ∧ (∀ k, k < n → TkR b (st k) (E (k + 1)) (kR N 1004 k)) ∧ kR N 1004 n = 2
section PLACE
variable {k n L q s e r t : Nat} {b st E : Nat → Nat} {I I' : IM} {N N' : NM} {M M' : Mem}
theorem TC.n_le (h : TC N I b L n st E k) : n ≤ L ∧ L ≤ 400 := by
  have := h.2.1.le n 0 (by omega)
  have := h.1.1
  omega
theorem TC.rng (h : TC N I b L n st E k) : 1 ≤ kR N 1004 k ∧ kR N 1004 k ≤ 36 := by
  obtain ⟨h1, h2, ⟨h3, h4, h5⟩, h6, h7, h8, h9⟩ := h
  by_cases c : k = n
  · rw [c, h9]; omega
  · exact (h8 k (by omega)).rng
theorem TC.at (h : TC N I b L n st E k) (hk : q ≤ n) : TC N (u2 I 1003 6 (nI q)) b L n st E q := by
  obtain ⟨⟨hL, hb⟩, h2, ⟨h3, h4, h5⟩, h6, h7, h8, h9⟩ := h
  exact ⟨⟨hL, fun k hk => ⟨(hb k hk).1, by rw [u2_n _ _ _ _ (by omega)]; exact (hb k hk).2⟩⟩, h2, ⟨by rw [u2_n _ _ _ _ (by omega)]; exact h3, u2_s _ _ _ _, hk⟩, fun k hk => by rw [u2_n _ _ _ _ (by omega)]; exact h6 k hk, fun k hk => by rw [u2_n _ _ _ _ (by omega)]; exact h7 k hk, h8, h9⟩
theorem c_tok (hs : Shp N) (h : TC N I b L n st E k) : F_Text_token 1003 (I, N) = some (kR N 1004 k) := by
  obtain ⟨x0, x1, x2, x3, x4, x5, ⟨x6, x7⟩, ⟨x8, x9⟩, ⟨x10, x11⟩⟩ := hs.2.2.1
  have := h.n_le
  have hk := h.2.2.1.2.2
  unfold F_Text_token
  simp only [v_fR x0, v_fI x0, x3, h.2.2.1.2.1, Option.bind_some, reduceIte, if_true, if_false, Bool.false_eq_true, ck_tt, v_aR x6 x7 (rfl : nI k = nI k) (show k < 401 by omega) (by omega)]
theorem c_start (hs : Shp N) (h : TC N I b L n st E k) : F_Text_start 1003 (I, N) = some (nI (st k)) := by
  obtain ⟨x0, x1, x2, x3, x4, x5, ⟨x6, x7⟩, ⟨x8, x9⟩, ⟨x10, x11⟩⟩ := hs.2.2.1
  have := h.n_le
  have hk := h.2.2.1.2.2
  unfold F_Text_start
  simp only [v_fR x0, v_fI x0, x4, h.2.2.1.2.1, Option.bind_some, reduceIte, if_true, if_false, Bool.false_eq_true, ck_tt, v_aI x8 x9 (rfl : nI k = nI k) (show k < 401 by omega) (by omega), h.2.2.2.1 k hk]
theorem c_adv (hs : Shp N) (h : TC N I b L n st E k) (hk : k < n) : F_Text_advance 1003 (I, N) = some (u2 I 1003 6 (nI (k + 1)), N) := by
  obtain ⟨x0, -⟩ := hs.2.2.1
  have := h.n_le
  unfold F_Text_advance
  simp only [v_fI x0, v_sI x0, h.2.2.1.1, h.2.2.1.2.1, cm_leF hk (show n < 2 ^ 31 by omega), Option.bind_some, reduceIte, if_true, if_false, Bool.false_eq_true, ck_tt, show nI k + (1 : Int32) = nI (k + 1) from nI_add k 1]
theorem c_take (hs : Shp N) (h : TC N I b L n st E k) (ht : t ≤ 36) : F_Text_take 1003 t (I, N) = some (if k < n ∧ kR N 1004 k = t then (1, (u2 I 1003 6 (nI (k + 1)), N)) else (0, (I, N))) := by
  obtain ⟨x0, x1, x2, x3, x4, x5, ⟨x6, x7⟩, ⟨x8, x9⟩, ⟨x10, x11⟩⟩ := hs.2.2.1
  have := h.n_le
  have hk := h.2.2.1.2.2
  have hr := h.rng
  unfold F_Text_take
  simp only [v_fR x0, v_fI x0, v_sI x0, x3, h.2.2.1.1, h.2.2.1.2.1, Option.bind_some, reduceIte, if_true, if_false, Bool.false_eq_true, ck_tt, v_aR x6 x7 (rfl : nI k = nI k) (show k < 401 by omega) (by omega), ck_tt (show kR N 1004 k ≤ 36 ∧ t ≤ 36 from ⟨hr.2, ht⟩)]
  by_cases c : kR N 1004 k = t
  · by_cases c2 : k < n
    · simp only [c, c2, and_self, cm_ltT c2 (show n < 2 ^ 31 by omega), Option.bind_some, reduceIte, if_true, if_false, Bool.false_eq_true, ck_tt, show nI k + (1 : Int32) = nI (k + 1) from nI_add k 1]
    · simp only [c, c2, false_and, cm_ltF (Nat.not_lt.mp c2) (show k < 2 ^ 31 by omega), Option.bind_some, reduceIte, if_true, if_false, Bool.false_eq_true, ck_tt]
  · simp only [c, and_false, Option.bind_some, reduceIte, if_true, if_false, Bool.false_eq_true, ck_tt]
end PLACE
