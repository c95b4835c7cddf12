/-! back to what was remembered; the image -/
section UNDO
variable {a b c d s g w k v q p n L o hh n' L' t r : Nat} {I I' I2 : IM} {W W' : Nat → Int32} {N N' N2 K : NM} {J J' J2 : IM} {M M' : Mem} {P : List lnT} {tr : Nat → Int32} {x y z : Int32}
/-- the image, where no row of it changes -/
theorem IMr.r19 (h : IMr N I J) (hs : Shp N) (hd : kS N d = 17) (hd2 : d ≠ 1485) (e1 : I' 1000 10 = I 1000 10) (e2 : J' 1528 4 = J 1528 4) (e3 : J' 1530 = J 1530) (f : ∀ c, 1485 ≤ c → c < 1528 → I' c = I c) (lz : ∀ c, LZx c → I' c = I c) : IMr (rN N d 19 r) I' J' := by
  unfold IMr
  rw [e1, e2, e3]
  rcases h with h10 | ⟨i1, i2, g', w', p', P', n', i3, i4, i5, i6⟩
  · exact Or.inl h10
  · exact Or.inr ⟨i1, i2, g', w', p', P', n', i3.rows fun c c1 c2 => f c (by omega) (by omega), by rw [kR_n N (fun z => hd2 z.1.symm)]; exact i4, i5.r19 hs hd r lz, i6.cong (fun c c1 c2 => f c (by omega) (by omega)) (fun _ _ => rfl)⟩
theorem op_undo (h : INVp N I K J g w p P n L o hh) : E2 (F_RR_undo 1000 (I, N)) (F_Mo_undo 1528 (J, K)) (fun u u' => Ex tr N I K J (.inl u) u') := by
  have hN := h.1
  have hm := h.2.1
  have hk6 : kS N 1077 = 11 := hN.2.2.2.2.2.2.1.1
  have hall := h
  obtain ⟨h1, h2, h3, h4, h5, h6, h7, h8, ⟨⟨q1, q2⟩, ⟨q3, q4, q5⟩, q6⟩, h10⟩ := h
  unfold F_RR_undo
  simp only [sp_r6 hN, sp_r2 hN, Option.bind_some, reduceIte, if_true, if_false, Bool.false_eq_true, ck_tt, v_qS, hk6]
  by_cases c0 : hh = 0
  · subst c0
    have q4 : I 1077 2 = 0 := q4
    have e60 : u2 J 1528 0 0 1528 6 = 0 := by rw [u2_n _ _ _ _ (by omega)]; exact q5
    unfold F_History_undoLatest F_Mo_undo
    simp only [v_fI hk6, q4, mo_s hm, mo_f hm, e60, Option.bind_some, reduceIte, if_true, if_false, Bool.false_eq_true, ck_tt, ck_tt (show (0 : Int32) = 0 ∨ (0 : Int32) = 1 from Or.inl rfl), true_or]
    obtain ⟨k1, k2⟩ := hall.thr 0
    exact E2.ok ⟨I, N, _, rfl, ⟨_, _, _, _, _, _, _, _, k1⟩, fun _ _ _ => rfl, k2, Or.inl ⟨0, rfl, rfl, u2_s _ _ _ _⟩⟩
  · refine E2.mk (P := fun u => ∃ I', u = (1, (I', rN N 1007 19 (kR N (1079 + 33 * ((o + (hh - 1)) % 12)) 19))) ∧ (∀ j k, cpd j k → I' (1007 + j) k = I (1079 + 33 * ((o + (hh - 1)) % 12) + j) k) ∧ (∀ c j, ¬ (1007 ≤ c ∧ c < 1034) → ¬ (c = 1077 ∧ j = 2) → I' c j = I c j) ∧ I' 1077 2 = nI (hh - 1)) ?_ ?_
    · refine E1.bind (c_undo h1 q1 q2 (by omega) q3 q4) ?_
      rintro _ ⟨I', rfl, f1, f2, f3⟩
      simp only [ck_tt (show (1 : Int32) = 0 ∨ (1 : Int32) = 1 from Or.inr rfl)]
      exact E1.ok ⟨I', rfl, f1, f2, f3⟩
    rintro _ ⟨I', rfl, f1, f2, f3⟩
    refine (m_undo h2 q2 (by omega) q5).imp ?_
    rintro _ ⟨J', rfl, g1, g2, g3, g4⟩
    obtain ⟨s1, s2, s3⟩ := q6 (hh - 1) (by omega)
    rw [s2]
    have lz : ∀ c, LZx c → I' c = I c := fun c hc => funext fun j => f2 c j (by have := hc.ne; omega) (by have := hc.ne; omega)
    have fr : ∀ c, ¬ (1007 ≤ c ∧ c < 1034) → c ≠ 1077 → I' c = I c := fun c c1 c2 => funext fun j => f2 c j c1 (by omega)
    have gr : ∀ c, c ≠ 1529 → c ≠ 1528 → J' c = J c := fun c c1 c2 => funext fun j => g1 c j (by omega) (by omega)
    have e3 : J' 1529 3 = J 1529 3 := by rw [g4 3 (by omega), s3]
    have hI : INVp (rN N 1007 19 p) I' K J' g w p P n L o (hh - 1) := by
      refine ⟨h1.nx (NXc.r19 h1.2.2.2.2.2.2.2.2.2.2.2 h1.wn.1.1 p), h2, ?_, kR_s _ _ _, ?_, ?_, ?_, ?_, ⟨⟨q1, by omega⟩, ⟨by rw [f2 _ _ (by omega) (by omega)]; exact q3, f3, g3⟩, fun i hi => ?_⟩, ?_⟩
      · exact (s1.copy f1).cells fun k hk => g4 k hk
      · exact (h5.r19 h1 h1.wn.1.1 p lz).cells e3 fun j hj => g1 _ _ (by omega) (by omega)
      · exact h6.cong (fun c c1 c2 => fr c (by omega) (by omega)) (fun j hj => g1 _ _ (by omega) (by omega))
      · exact h7.cong (fr _ (by omega) (by omega)) (fr _ (by omega) (by omega)) (g1 _ _ (by omega) (by omega)) (gr _ (by omega) (by omega))
      · rw [fr 1000 (by omega) (by omega), g1 1528 13 (by omega) (by omega)]; exact h8
      · have hmi : (o + i) % 12 < 12 := Nat.mod_lt _ (by omega)
        rw [gr 1532 (by omega) (by omega), e3, kR_n N (by omega)]
        obtain ⟨t1, t2, t3⟩ := q6 i (by omega)
        exact ⟨t1.rows fun c c1 c2 => fr c (by omega) (by omega), t2, t3⟩
      · exact h10.r19 h1 h1.wn.1.1 (by omega) (congrFun (fr _ (by omega) (by omega)) _) (g1 _ _ (by omega) (by omega)) (gr _ (by omega) (by omega)) (fun c c1 c2 => fr c (by omega) (by omega)) lz
    exact ⟨I', _, J', rfl, ⟨_, _, _, _, _, _, _, _, hI⟩, fun c c1 c2 => fr c (by omega) (by omega), fun c hc => gr c (by omega) (by omega), Or.inl ⟨1, rfl, rfl, g2⟩⟩
/-- chains copied -/
theorem c_ccopy (hd : CNs N d) (hs : CNs N s) (hds : s + 10 ≤ d ∨ d + 10 ≤ s) (I : IM) : E1 (F_Chains_copy d s (I, N)) (fun M => ∃ I', M = (I', N) ∧ (I' d 3 = I s 3 ∧ (∀ k, k < 6 → I' (d + 8) k = I (s + 8) k) ∧ ∀ i k, i < 6 → k < 12 → I' (d + 2 + i) k = I (s + 2 + i) k) ∧ ∀ c, ¬ (d ≤ c ∧ c < d + 9) → I' c = I c) := by
  obtain ⟨⟨a0, a1, a2, a3⟩, ⟨b1, b2⟩, ⟨b3, b4⟩, ⟨b5, b6⟩, b7⟩ := hd
  obtain ⟨⟨d0, d1, d2, d3⟩, ⟨c1, c2⟩, ⟨c3, c4⟩, ⟨c5, c6⟩, c7⟩ := hs
  unfold F_Chains_copy
  simp only [v_fI d0, v_sI a0, v_fR d0, v_fR a0, d2, a2, Option.bind_some, reduceIte, if_true, if_false, Bool.false_eq_true, ck_tt, v_cpI c3 b3 rfl rfl (show (6 : Int32) = nI 6 from rfl) (show 6 ≤ kN N (s + 8) by omega) (show 6 ≤ kN N (d + 8) by omega) (by omega)]
  refine lq1 (fun i z => ∃ I', z = (nI i, (I', N)) ∧ (I' d 3 = I s 3 ∧ (∀ k, k < 6 → I' (d + 8) k = I (s + 8) k) ∧ ∀ x k, x < i → k < 12 → I' (d + 2 + x) k = I (s + 2 + x) k) ∧ ∀ c, ¬ (d ≤ c ∧ c < d + 9) → I' c = I c) _ 6 (lim_lt (by omega)) (Nat.zero_le _) ?_ ?_ ?_
  · refine ⟨_, rfl, ⟨?_, fun k hk => ?_, fun x k hx => absurd hx (Nat.not_lt_zero _)⟩, fun c hc => ?_⟩
    · rw [rw_n _ _ (by omega), u2_s]
    · rw [rw_s, if_pos hk, u2_o _ _ _ _ (by omega)]
    · rw [rw_n _ _ (by omega), u2_o _ _ _ _ (by omega)]
  · rintro i z hi ⟨I1, rfl, ⟨f1, f2, f3⟩, f4⟩
    obtain ⟨x1, x2, x3⟩ := c7 i hi
    obtain ⟨y1, y2, y3⟩ := b7 i hi
    simp only [show ((6 : Int32) ≤ nI i) = False from cm_leF (b := 6) hi (by omega), Option.bind_some, reduceIte, if_true, if_false, Bool.false_eq_true, ck_tt, v_fR d0, v_fR a0, d1, a1, v_aR c1 c2 (rfl : nI i = nI i) hi (by omega), v_aR b1 b2 (rfl : nI i = nI i) hi (by omega), x1, y1, v_cpI x2 y2 rfl rfl (show (12 : Int32) = nI 12 from rfl) (show 12 ≤ kN N (s + 2 + i) by omega) (show 12 ≤ kN N (d + 2 + i) by omega) (by omega)]
    refine E1.ok ⟨_, Prod.ext (nI_1 i) rfl, ⟨by rw [rw_n _ _ (by omega)]; exact f1, fun k hk => by rw [rw_n _ _ (by omega)]; exact f2 k hk, fun x k hx hk => ?_⟩, fun c hc => by rw [rw_n _ _ (by omega)]; exact f4 c hc⟩
    by_cases e : x = i
    · subst e
      rw [rw_s, if_pos hk, f4 _ (by omega)]
    · rw [rw_n _ _ (by omega)]; exact f3 x k (by omega) hk
  · rintro z ⟨I1, rfl, hf, f4⟩
    simp only [show ((6 : Int32) ≤ nI 6) = True from cm_leT (Nat.le_refl 6) (by omega), Option.bind_some, reduceIte, if_true, if_false, Bool.false_eq_true, ck_tt]
    exact E1.ok ⟨I1, rfl, hf, f4⟩
theorem CRl.copy (h : CRl s I W g n) (hg : g ≤ 12) (f1 : I' d 3 = I s 3) (f2 : ∀ k, k < 6 → I' (d + 8) k = I (s + 8) k) (f3 : ∀ i k, i < 6 → k < 12 → I' (d + 2 + i) k = I (s + 2 + i) k) (e : ∀ j, 285 ≤ j → j < 364 → W' j = W j) : CRl d I' W' g n := by
  obtain ⟨h1, h2, h3, h4⟩ := h
  refine ⟨h1, by rw [f1]; exact h2, by rw [e _ (by omega) (by omega)]; exact h3, fun i hi => ?_⟩
  obtain ⟨l, l1, l2, l3, l4⟩ := h4 i hi
  refine ⟨l, l1, by rw [f2 _ (by omega)]; exact l2, by rw [e _ (by omega) (by omega)]; exact l3, fun k hk => ?_⟩
  rw [f3 _ _ (by omega) (by omega), e _ (by omega) (by omega)]
  exact l4 k hk
end UNDO
