/-! a world copied; the law's name in it */ -/
def cpd (j k : Nat) : Prop := (j = 0 ∧ (k = 0 ∨ k = 4 ∨ (12 ≤ k ∧ k ≤ 18))) ∨ (1 ≤ j ∧ j ≤ 3 ∧ k < 12) ∨ (4 ≤ j ∧ j ≤ 8 ∧ k < 8) ∨ (10 ≤ j ∧ j ≤ 17 ∧ k < 12) ∨ (19 ≤ j ∧ j ≤ 26 ∧ k < 12)
section CPY
variable {a b d s g w k v q p n : Nat} {I I' I2 : IM} {W W' : Nat → Int32} {N K : NM} {J : IM} {M M' : Mem}
theorem WR.copy (h : WR s I W g w) (f : ∀ j k, cpd j k → I' (d + j) k = I (s + j) k) : WR d I' W g w := by
  have h8 := h.w8
  have h12 := h.g12
  obtain ⟨h1, h2, h3, h4, h5⟩ := h
  have f0 : ∀ k, (k = 0 ∨ k = 4 ∨ (12 ≤ k ∧ k ≤ 18)) → I' d k = I s k := fun k hk => f 0 k (Or.inl ⟨rfl, hk⟩)
  have f1 : ∀ j k, 1 ≤ j → j ≤ 3 → k < 12 → I' (d + j) k = I (s + j) k := fun j k a b c => f j k (Or.inr (Or.inl ⟨a, b, c⟩))
  have f4 : ∀ j k, 4 ≤ j → j ≤ 8 → k < 8 → I' (d + j) k = I (s + j) k := fun j k a b c => f j k (Or.inr (Or.inr (Or.inl ⟨a, b, c⟩)))
  have f10 : ∀ v k, v < 8 → k < 12 → I' (d + 10 + v) k = I (s + 10 + v) k := fun v k a c => by
    have := f (10 + v) k (Or.inr (Or.inr (Or.inr (Or.inl ⟨by omega, by omega, c⟩))))
    rw [← Nat.add_assoc, ← Nat.add_assoc] at this; exact this
  have f19 : ∀ v k, v < 8 → k < 12 → I' (d + 19 + v) k = I (s + 19 + v) k := fun v k a c => by
    have := f (19 + v) k (Or.inr (Or.inr (Or.inr (Or.inr ⟨by omega, by omega, c⟩))))
    rw [← Nat.add_assoc, ← Nat.add_assoc] at this; exact this
  refine ⟨h1, ?_, fun k hk => ?_, fun k hk => ?_, fun k hk hk8 => ?_⟩
  · unfold WA at h2 ⊢
    rw [f0 0 (by omega), f0 4 (by omega), f0 13 (by omega), f0 14 (by omega), f0 15 (by omega), f0 16 (by omega), f0 17 (by omega), f0 18 (by omega)]
    exact h2
  · have := h3 k hk
    unfold WB at this ⊢
    rw [f1 1 k (by omega) (by omega) (by omega), f1 2 k (by omega) (by omega) (by omega), f1 3 k (by omega) (by omega) (by omega)]
    exact this
  · obtain ⟨c0, c7, c8, c9, c10, c11, c12, c13⟩ := h4 k hk
    unfold WC
    rw [f4 4 k (by omega) (by omega) (by omega), f4 5 k (by omega) (by omega) (by omega), f4 6 k (by omega) (by omega) (by omega), f4 7 k (by omega) (by omega) (by omega), f4 8 k (by omega) (by omega) (by omega), f0 12 (by omega)]
    refine ⟨c0, fun q hq => ?_, fun q hq hb => ?_, c9, c10, c11, fun q hq => ?_, c13⟩
    · rw [f19 k q (by omega) hq]; exact c7 q hq
    · rw [f10 k q (by omega) (by omega)]; exact c8 q hq hb
    · rw [f19 k q (by omega) hq]; exact c12 q hq
  · obtain ⟨e1, e2, e3, e4, e5⟩ := h5 k hk hk8
    unfold WE
    rw [f4 4 k (by omega) (by omega) (by omega), f4 7 k (by omega) (by omega) (by omega), f4 8 k (by omega) (by omega) (by omega), f0 12 (by omega)]
    exact ⟨e1, e2, e3, e4, fun q hq => by rw [f19 k q hk8 hq]; exact e5 q hq⟩
theorem kR_n {r : Nat} (N : NM) (h : ¬ (b = d ∧ k = q)) : kR (rN N d q r) b k = kR N b k := u2_n _ _ _ _ h
theorem WN.law {r : Nat} (h : WN N a) (b : Nat) (hb : kS N b = 17) : WN (rN N b 19 r) a := by
  obtain ⟨h1, h2, h3, h4, h5⟩ := h
  have e : ∀ x y, y ≠ 19 → kR (rN N b 19 r) x y = kR N x y := fun x y hy => kR_n N (fun z => hy z.2)
  refine ⟨?_, h2, h3, h4, fun w hw => ?_⟩
  · rw [e a 1 (by omega), e a 2 (by omega), e a 3 (by omega), e a 5 (by omega), e a 6 (by omega), e a 7 (by omega), e a 8 (by omega), e a 9 (by omega), e a 10 (by omega), e a 11 (by omega)]
    exact h1
  · rw [e (a + 9) w (by omega), e (a + 18) w (by omega)]
    exact h5 w hw
theorem cp_step {I1 : IM} {j n : Nat} {x : Int32} (hx : x = nI n) (hn : n < 2 ^ 31) (ha : kS N (s + j) = 1) (hb : kS N (d + j) = 1) (h1 : n ≤ kN N (s + j)) (h2 : n ≤ kN N (d + j)) (hs : I1 (s + j) = I (s + j)) :
    E1 (cpI (I1, N) (s + j) (0 : Int32) (d + j) (0 : Int32) x) (fun M => ∃ I2, M = (I2, N) ∧ (∀ k, k < n → I2 (d + j) k = I (s + j) k) ∧ ∀ c, c ≠ d + j → I2 c = I1 c) := by
  rw [v_cpI ha hb rfl rfl hx h1 h2 hn]
  refine E1.ok ⟨_, rfl, fun k hk => ?_, fun c hc => rw_n _ _ hc⟩
  rw [rw_s, if_pos hk, hs]
/-- the world at s copied to d -/
theorem c_copy (hd : WN N d) (hs : WN N s) (hds : s + 27 ≤ d ∨ d + 27 ≤ s) (I : IM) : E1 (F_World_copy d s (I, N)) (fun M => ∃ I', M = (I', rN N d 19 (kR N s 19)) ∧ (∀ j k, cpd j k → I' (d + j) k = I (s + j) k) ∧ Fr d I I') := by
  have hsd : s ≠ d := by omega
  have hS : ∀ (f : IM) k v, u2 f d k v s = f s := fun f k v => u2_o f d k v hsd
  have hd' := hd.law (r := kR N s 19) d (wa_k hd)
  have hs' := hs.law (r := kR N s 19) d (wa_k hd)
  unfold F_World_copy
  simp only [wa_f hd, wa_f hs, wa_s hd, hS, v_fR (wa_k hs), v_sR (wa_k hd), Option.bind_some, reduceIte, if_true, if_false, Bool.false_eq_true, ck_tt]
  obtain ⟨I1, hI1, hf, hfr⟩ : ∃ I1 : IM, I1 = u2 (u2 (u2 (u2 (u2 (u2 (u2 (u2 (u2 I d 0 (I s 0)) d 4 (I s 4)) d 12 (I s 12)) d 13 (I s 13)) d 14 (I s 14)) d 15 (I s 15)) d 16 (I s 16)) d 17 (I s 17)) d 18 (I s 18) ∧ (∀ k, (k = 0 ∨ k = 4 ∨ (12 ≤ k ∧ k ≤ 18)) → I1 d k = I s k) ∧ ∀ c, c ≠ d → I1 c = I c := by
    refine ⟨_, rfl, fun k hk => ?_, fun c hc => by simp only [u2_o _ _ _ _ hc]⟩
    have : k = 0 ∨ k = 4 ∨ k = 12 ∨ k = 13 ∨ k = 14 ∨ k = 15 ∨ k = 16 ∨ k = 17 ∨ k = 18 := by omega
    rcases this with rfl | rfl | rfl | rfl | rfl | rfl | rfl | rfl | rfl <;> simp [u2]
  rw [← hI1]
  clear hI1
  have hz : kN (rN N d 19 (kR N s 19)) = kN N := rfl
  generalize rN N d 19 (kR N s 19) = N1 at hd' hs' ⊢
  simp only [wa_r1 hd', wa_r1 hs', Option.bind_some]
  refine E1.bind (cp_step (I := I) (j := 1) (n := 12) rfl (by omega) (hs'.2.1 1 (by omega) (by omega)).1 (hd'.2.1 1 (by omega) (by omega)).1 (Nat.le_of_eq (hs'.2.1 1 (by omega) (by omega)).2.symm) (Nat.le_of_eq (hd'.2.1 1 (by omega) (by omega)).2.symm) (by rw [hfr _ (by omega)])) ?_
  rintro _ ⟨A1, rfl, g1_1, g1_2⟩
  simp only [wa_r2 hd', wa_r2 hs', Option.bind_some]
  refine E1.bind (cp_step (I := I) (j := 2) (n := 12) rfl (by omega) (hs'.2.1 2 (by omega) (by omega)).1 (hd'.2.1 2 (by omega) (by omega)).1 (Nat.le_of_eq (hs'.2.1 2 (by omega) (by omega)).2.symm) (Nat.le_of_eq (hd'.2.1 2 (by omega) (by omega)).2.symm) (by rw [g1_2 _ (by omega) , hfr _ (by omega)])) ?_
  rintro _ ⟨A2, rfl, g2_1, g2_2⟩
  simp only [wa_r3 hd', wa_r3 hs', Option.bind_some]
  refine E1.bind (cp_step (I := I) (j := 3) (n := 12) rfl (by omega) (hs'.2.1 3 (by omega) (by omega)).1 (hd'.2.1 3 (by omega) (by omega)).1 (Nat.le_of_eq (hs'.2.1 3 (by omega) (by omega)).2.symm) (Nat.le_of_eq (hd'.2.1 3 (by omega) (by omega)).2.symm) (by rw [g2_2 _ (by omega) , g1_2 _ (by omega) , hfr _ (by omega)])) ?_
  rintro _ ⟨A3, rfl, g3_1, g3_2⟩
  simp only [wa_r5 hd', wa_r5 hs', Option.bind_some]
  refine E1.bind (cp_step (I := I) (j := 4) (n := 8) rfl (by omega) (hs'.2.2.1 4 (by omega) (by omega)).1 (hd'.2.2.1 4 (by omega) (by omega)).1 (Nat.le_of_eq (hs'.2.2.1 4 (by omega) (by omega)).2.symm) (Nat.le_of_eq (hd'.2.2.1 4 (by omega) (by omega)).2.symm) (by rw [g3_2 _ (by omega) , g2_2 _ (by omega) , g1_2 _ (by omega) , hfr _ (by omega)])) ?_
  rintro _ ⟨A4, rfl, g4_1, g4_2⟩
  simp only [wa_r6 hd', wa_r6 hs', Option.bind_some]
  refine E1.bind (cp_step (I := I) (j := 5) (n := 8) rfl (by omega) (hs'.2.2.1 5 (by omega) (by omega)).1 (hd'.2.2.1 5 (by omega) (by omega)).1 (Nat.le_of_eq (hs'.2.2.1 5 (by omega) (by omega)).2.symm) (Nat.le_of_eq (hd'.2.2.1 5 (by omega) (by omega)).2.symm) (by rw [g4_2 _ (by omega) , g3_2 _ (by omega) , g2_2 _ (by omega) , g1_2 _ (by omega) , hfr _ (by omega)])) ?_
  rintro _ ⟨A5, rfl, g5_1, g5_2⟩
  simp only [wa_r7 hd', wa_r7 hs', Option.bind_some]
  refine E1.bind (cp_step (I := I) (j := 6) (n := 8) rfl (by omega) (hs'.2.2.1 6 (by omega) (by omega)).1 (hd'.2.2.1 6 (by omega) (by omega)).1 (Nat.le_of_eq (hs'.2.2.1 6 (by omega) (by omega)).2.symm) (Nat.le_of_eq (hd'.2.2.1 6 (by omega) (by omega)).2.symm) (by rw [g5_2 _ (by omega) , g4_2 _ (by omega) , g3_2 _ (by omega) , g2_2 _ (by omega) , g1_2 _ (by omega) , hfr _ (by omega)])) ?_
  rintro _ ⟨A6, rfl, g6_1, g6_2⟩
  simp only [wa_r8 hd', wa_r8 hs', Option.bind_some]
  refine E1.bind (cp_step (I := I) (j := 7) (n := 8) rfl (by omega) (hs'.2.2.1 7 (by omega) (by omega)).1 (hd'.2.2.1 7 (by omega) (by omega)).1 (Nat.le_of_eq (hs'.2.2.1 7 (by omega) (by omega)).2.symm) (Nat.le_of_eq (hd'.2.2.1 7 (by omega) (by omega)).2.symm) (by rw [g6_2 _ (by omega) , g5_2 _ (by omega) , g4_2 _ (by omega) , g3_2 _ (by omega) , g2_2 _ (by omega) , g1_2 _ (by omega) , hfr _ (by omega)])) ?_
  rintro _ ⟨A7, rfl, g7_1, g7_2⟩
  simp only [wa_r9 hd', wa_r9 hs', Option.bind_some]
  refine E1.bind (cp_step (I := I) (j := 8) (n := 8) rfl (by omega) (hs'.2.2.1 8 (by omega) (by omega)).1 (hd'.2.2.1 8 (by omega) (by omega)).1 (Nat.le_of_eq (hs'.2.2.1 8 (by omega) (by omega)).2.symm) (Nat.le_of_eq (hd'.2.2.1 8 (by omega) (by omega)).2.symm) (by rw [g7_2 _ (by omega) , g6_2 _ (by omega) , g5_2 _ (by omega) , g4_2 _ (by omega) , g3_2 _ (by omega) , g2_2 _ (by omega) , g1_2 _ (by omega) , hfr _ (by omega)])) ?_
  rintro _ ⟨A8, rfl, g8_1, g8_2⟩
  have hA : ∀ c, ¬ (d ≤ c ∧ c ≤ d + 8) → A8 c = I c := fun c hc => by rw [g8_2 _ (by omega), g7_2 _ (by omega), g6_2 _ (by omega), g5_2 _ (by omega), g4_2 _ (by omega), g3_2 _ (by omega), g2_2 _ (by omega), g1_2 _ (by omega), hfr _ (by omega)]
  have hA0 : ∀ k, (k = 0 ∨ k = 4 ∨ (12 ≤ k ∧ k ≤ 18)) → A8 d k = I s k := fun k hk => by
    rw [g8_2 _ (by omega), g7_2 _ (by omega), g6_2 _ (by omega), g5_2 _ (by omega), g4_2 _ (by omega), g3_2 _ (by omega), g2_2 _ (by omega), g1_2 _ (by omega)]
    exact hf k hk
  have hA1 : ∀ k, k < 12 → A8 (d + 1) k = I (s + 1) k := fun k hk => by
    rw [g8_2 _ (by omega), g7_2 _ (by omega), g6_2 _ (by omega), g5_2 _ (by omega), g4_2 _ (by omega), g3_2 _ (by omega), g2_2 _ (by omega)]
    exact g1_1 k hk
  have hA2 : ∀ k, k < 12 → A8 (d + 2) k = I (s + 2) k := fun k hk => by
    rw [g8_2 _ (by omega), g7_2 _ (by omega), g6_2 _ (by omega), g5_2 _ (by omega), g4_2 _ (by omega), g3_2 _ (by omega)]
    exact g2_1 k hk
  have hA3 : ∀ k, k < 12 → A8 (d + 3) k = I (s + 3) k := fun k hk => by
    rw [g8_2 _ (by omega), g7_2 _ (by omega), g6_2 _ (by omega), g5_2 _ (by omega), g4_2 _ (by omega)]
    exact g3_1 k hk
  have hA4 : ∀ k, k < 8 → A8 (d + 4) k = I (s + 4) k := fun k hk => by
    rw [g8_2 _ (by omega), g7_2 _ (by omega), g6_2 _ (by omega), g5_2 _ (by omega)]
    exact g4_1 k hk
  have hA5 : ∀ k, k < 8 → A8 (d + 5) k = I (s + 5) k := fun k hk => by
    rw [g8_2 _ (by omega), g7_2 _ (by omega), g6_2 _ (by omega)]
    exact g5_1 k hk
  have hA6 : ∀ k, k < 8 → A8 (d + 6) k = I (s + 6) k := fun k hk => by
    rw [g8_2 _ (by omega), g7_2 _ (by omega)]
    exact g6_1 k hk
  have hA7 : ∀ k, k < 8 → A8 (d + 7) k = I (s + 7) k := fun k hk => by
    rw [g8_2 _ (by omega)]
    exact g7_1 k hk
  have hA8 : ∀ k, k < 8 → A8 (d + 8) k = I (s + 8) k := fun k hk => by
    skip
    exact g8_1 k hk
  refine lq1 (fun v z => ∃ I2, z = (nI v, (I2, N1)) ∧ (∀ v', v' < v → ∀ k, k < 12 → I2 (d + 10 + v') k = I (s + 10 + v') k ∧ I2 (d + 19 + v') k = I (s + 19 + v') k) ∧ (∀ c, ¬ (d + 10 ≤ c ∧ c < d + 10 + v) → ¬ (d + 19 ≤ c ∧ c < d + 19 + v) → I2 c = A8 c)) _ 8 (lim_lt (by omega)) (Nat.zero_le _) ⟨A8, rfl, fun v' hv' => absurd hv' (Nat.not_lt_zero _), fun _ _ _ => rfl⟩ ?_ ?_
  · rintro v z hv ⟨I2, rfl, hrow, hout⟩
    have ws := hs'.2.2.2.2 v hv
    have wd := hd'.2.2.2.2 v hv
    have e1 : I2 (s + 10 + v) = I (s + 10 + v) := by rw [hout _ (by omega) (by omega), hA _ (by omega)]
    have e2 : I2 (s + 19 + v) = I (s + 19 + v) := by rw [hout _ (by omega) (by omega), hA _ (by omega)]
    have e3 : s + 10 + v = s + (10 + v) := Nat.add_assoc _ _ _
    have e4 : d + 10 + v = d + (10 + v) := Nat.add_assoc _ _ _
    have e5 : s + 19 + v = s + (19 + v) := Nat.add_assoc _ _ _
    have e6 : d + 19 + v = d + (19 + v) := Nat.add_assoc _ _ _
    simp only [show ((8 : Int32) ≤ nI v) = False from cm_leF (b := 8) hv (by omega), if_false, wa_r10 hs', wa_r10 hd', wa_q9 hs' hv, wa_q9 hd' hv, Option.bind_some]
    rw [e3] at e1 ws
    rw [e4] at wd
    rw [e3, e4]
    refine E1.bind (cp_step (I := I) (j := 10 + v) (n := 12) rfl (by omega) ws.1.2.1 wd.1.2.1 (Nat.le_of_eq ws.1.2.2.symm) (Nat.le_of_eq wd.1.2.2.symm) e1) ?_
    rintro _ ⟨B1, rfl, p1, p2⟩
    simp only [wa_r11 hs', wa_r11 hd', wa_q18 hs' hv, wa_q18 hd' hv, Option.bind_some]
    rw [e5] at e2 ws
    rw [e6] at wd
    rw [e5, e6]
    refine E1.bind (cp_step (I := I) (j := 19 + v) (n := 12) rfl (by omega) ws.2.2.1 wd.2.2.1 (Nat.le_of_eq ws.2.2.2.symm) (Nat.le_of_eq wd.2.2.2.symm) (by rw [p2 _ (by omega), e2])) ?_
    rintro _ ⟨B2, rfl, p3, p4⟩
    refine E1.ok ⟨B2, Prod.ext (nI_1 v) rfl, fun v' hv' k hk => ?_, fun c h1 h2 => ?_⟩
    · by_cases e : v' = v
      · subst e
        rw [e4, e3, e6, e5]
        exact ⟨by rw [p4 _ (by omega)]; exact p1 k hk, p3 k hk⟩
      · rw [p4 _ (by omega), p2 _ (by omega), p4 _ (by omega), p2 _ (by omega)]
        exact hrow v' (by omega) k hk
    · rw [p4 _ (by omega), p2 _ (by omega)]
      exact hout c (by omega) (by omega)
  · rintro z ⟨I2, rfl, hrow, hout⟩
    simp only [show ((8 : Int32) ≤ nI 8) = True from cm_leT (b := 8) (Nat.le_refl 8) (by omega), if_true]
    refine E1.ok ⟨I2, rfl, fun j k hjk => ?_, fun c hc => by rw [hout c (by omega) (by omega), hA c (by omega)]⟩
    rcases hjk with ⟨rfl, hk⟩ | ⟨h1, h2, hk⟩ | ⟨h1, h2, hk⟩ | ⟨h1, h2, hk⟩ | ⟨h1, h2, hk⟩
    · rw [hout _ (by omega) (by omega)]; exact hA0 k hk
    · rw [hout _ (by omega) (by omega)]
      have : j = 1 ∨ j = 2 ∨ j = 3 := by omega
      rcases this with rfl | rfl | rfl
      · exact hA1 k hk
      · exact hA2 k hk
      · exact hA3 k hk
    · rw [hout _ (by omega) (by omega)]
      have : j = 4 ∨ j = 5 ∨ j = 6 ∨ j = 7 ∨ j = 8 := by omega
      rcases this with rfl | rfl | rfl | rfl | rfl
      · exact hA4 k hk
      · exact hA5 k hk
      · exact hA6 k hk
      · exact hA7 k hk
      · exact hA8 k hk
    · obtain ⟨v, rfl⟩ : ∃ v, j = 10 + v := ⟨j - 10, by omega⟩
      rw [← Nat.add_assoc, ← Nat.add_assoc]
      exact (hrow v (by omega) k hk).1
    · obtain ⟨v, rfl⟩ : ∃ v, j = 19 + v := ⟨j - 19, by omega⟩
      rw [← Nat.add_assoc, ← Nat.add_assoc]
      exact (hrow v (by omega) k hk).2
end CPY
