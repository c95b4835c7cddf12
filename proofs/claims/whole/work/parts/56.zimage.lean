/-! the image -/
theorem MLn.congrB {W W' : Nat → Int32} (e : ∀ j, 365 ≤ j → j < 1201 → W' j = W j) : ∀ {P : List lnT} {n o : Nat}, n + P.length ≤ 12 → MLn W n o P → MLn W' n o P
  | [], _, _, _, _ => trivial
  | ln :: P, n, o, hn, h => by
    have hn : n + (P.length + 1) ≤ 12 := hn
    obtain ⟨⟨h1, h2, h3⟩, h4, h5, h6⟩ := h
    have hb : ∀ j x, ln.2.2[j]? = some x → o + j < 400 := fun j x hx => by
      have := (List.getElem?_eq_some_iff.mp hx).1
      omega
    refine ⟨⟨?_, ?_, ?_⟩, h4, fun j x hx => ?_, h6.congrB e (by omega)⟩
    · rw [e _ (by omega) (by omega)]; exact h1
    · rw [e _ (by omega) (by omega)]; exact h2
    · rw [e _ (by omega) (by omega)]; exact h3
    · have := hb j x hx
      rw [e _ (by omega) (by omega), e _ (by omega) (by omega)]
      exact h5 j x hx
section IMAGE
variable {a b c d s g w k v q p n L o hh n' L' t r : Nat} {I I' I2 : IM} {W W' : Nat → Int32} {N N' N2 K : NM} {J J' J2 : IM} {M M' : Mem} {P : List lnT} {tr : Nat → Int32} {x y z : Int32}
theorem LW.cellsB (h : LW N I p W P) (f : ∀ j, j < 1201 → W' j = W j) : LW N I p W' P := by
  obtain ⟨⟨l1, l2, l3, l4, l5⟩, hz⟩ := h
  refine ⟨⟨l1, l2, l3, l4.congrB (fun j _ hj => f j hj) (by omega), ?_⟩, hz⟩
  rw [f 3 (by omega), f 364 (by omega)]
  exact l5
theorem mo_ai {i : Int32} (h : MN K) (e : i = nI n) (hn : n < 1201) : aI (J, K) 1530 i = some (J 1530 n) := v_aI h.2.2.1.1 h.2.2.1.2 e hn (by omega)
theorem mo_ti {i v : Int32} (h : MN K) (e : i = nI n) (hn : n < 1201) : tI (J, K) 1530 i v = some (u2 J 1530 n v, K) := v_tI h.2.2.1.1 h.2.2.1.2 e hn (by omega)
theorem m_image (hm : MN K) : E1 (F_Mo_image 1528 (J, K)) (fun M => ∃ J', M = (J', K) ∧ (∀ c j, c ≠ 1530 → ¬ (c = 1528 ∧ (j = 0 ∨ j = 4)) → J' c j = J c j) ∧ J' 1528 0 = 0 ∧ J' 1528 4 = 1 ∧ ∀ k, k < 1201 → J' 1530 k = J 1529 k) := by
  unfold F_Mo_image
  simp only [mo_s hm, Option.bind_some, reduceIte, if_true, if_false, Bool.false_eq_true, ck_tt]
  refine E1.bind (P := fun M => ∃ J', M = (J', K) ∧ (∀ c j, c ≠ 1530 → ¬ (c = 1528 ∧ (j = 0 ∨ j = 4)) → J' c j = J c j) ∧ J' 1528 0 = 0 ∧ ∀ k, k < 1201 → J' 1530 k = J 1529 k) ?_ ?_
  · refine lq1 (fun i s => ∃ J', s = (nI i, (J', K)) ∧ (∀ c j, c ≠ 1530 → ¬ (c = 1528 ∧ (j = 0 ∨ j = 4)) → J' c j = J c j) ∧ J' 1528 0 = 0 ∧ ∀ k, k < i → J' 1530 k = J 1529 k) _ 1201 (lim_lt (by omega)) (Nat.zero_le _) ⟨_, rfl, fun c j c1 c2 => u2_n _ _ _ _ (by omega), u2_s _ _ _ _, fun k hk => absurd hk (Nat.not_lt_zero _)⟩ ?_ ?_
    · rintro i s hi ⟨J1, rfl, f1, f2, f3⟩
      simp only [show ((1201 : Int32) ≤ nI i) = False from cm_leF (b := 1201) hi (by omega), Option.bind_some, reduceIte, if_true, if_false, Bool.false_eq_true, ck_tt, mo_r2 hm, mo_r1 hm, mo_a hm (rfl : nI i = nI i) (show i < 2038 by omega), mo_ti hm (rfl : nI i = nI i) hi]
      refine E1.ok ⟨_, Prod.ext (nI_1 i) rfl, fun c j c1 c2 => by rw [u2_n _ _ _ _ (by omega)]; exact f1 c j c1 c2, by rw [u2_n _ _ _ _ (by omega)]; exact f2, fun k hk => ?_⟩
      by_cases e : k = i
      · subst e; rw [u2_s]; exact f1 _ _ (by omega) (by omega)
      · rw [u2_n _ _ _ _ (by omega)]; exact f3 k (by omega)
    · rintro s ⟨J1, rfl, f1, f2, f3⟩
      simp only [show ((1201 : Int32) ≤ nI 1201) = True from cm_leT (Nat.le_refl 1201) (by omega), Option.bind_some, reduceIte, if_true, if_false, Bool.false_eq_true, ck_tt]
      exact E1.ok ⟨J1, rfl, f1, f2, f3⟩
  · rintro _ ⟨J1, rfl, f1, f2, f3⟩
    simp only [v_sB (mo_k hm) (show (1 : Int32) = 0 ∨ (1 : Int32) = 1 from Or.inr rfl), Option.bind_some, reduceIte, if_true, if_false, Bool.false_eq_true, ck_tt]
    exact E1.ok ⟨_, rfl, fun c j c1 c2 => by rw [u2_n _ _ _ _ (by omega)]; exact f1 c j c1 c2, by rw [u2_n _ _ _ _ (by omega)]; exact f2, u2_s _ _ _ _, fun k hk => by rw [u2_n _ _ _ _ (by omega)]; exact f3 k hk⟩
theorem m_back (hm : MN K) (e4 : J 1528 4 = 1) : E1 (F_Mo_back 1528 (J, K)) (fun u => ∃ J', u = (1, (J', K)) ∧ (∀ c j, c ≠ 1529 → ¬ (c = 1528 ∧ (j = 0 ∨ j = 6)) → J' c j = J c j) ∧ J' 1528 0 = 0 ∧ J' 1528 6 = 0 ∧ ∀ k, k < 1201 → J' 1529 k = J 1530 k) := by
  have e40 : u2 J 1528 0 0 1528 4 = 1 := by rw [u2_n _ _ _ _ (by omega)]; exact e4
  unfold F_Mo_back
  simp only [mo_s hm, mo_f hm, e40, i32_10, Option.bind_some, reduceIte, if_true, if_false, Bool.false_eq_true, ck_tt]
  refine E1.bind (P := fun M => ∃ J', M = (J', K) ∧ (∀ c j, c ≠ 1529 → ¬ (c = 1528 ∧ (j = 0 ∨ j = 6)) → J' c j = J c j) ∧ J' 1528 0 = 0 ∧ ∀ k, k < 1201 → J' 1529 k = J 1530 k) ?_ ?_
  · refine lq1 (fun i s => ∃ J', s = (nI i, (J', K)) ∧ (∀ c j, c ≠ 1529 → ¬ (c = 1528 ∧ (j = 0 ∨ j = 6)) → J' c j = J c j) ∧ J' 1528 0 = 0 ∧ ∀ k, k < i → J' 1529 k = J 1530 k) _ 1201 (lim_lt (by omega)) (Nat.zero_le _) ⟨_, rfl, fun c j c1 c2 => u2_n _ _ _ _ (by omega), u2_s _ _ _ _, fun k hk => absurd hk (Nat.not_lt_zero _)⟩ ?_ ?_
    · rintro i s hi ⟨J1, rfl, f1, f2, f3⟩
      simp only [show ((1201 : Int32) ≤ nI i) = False from cm_leF (b := 1201) hi (by omega), Option.bind_some, reduceIte, if_true, if_false, Bool.false_eq_true, ck_tt, mo_r2 hm, mo_r1 hm, mo_t hm (rfl : nI i = nI i) (show i < 2038 by omega), mo_ai hm (rfl : nI i = nI i) hi]
      refine E1.ok ⟨_, Prod.ext (nI_1 i) rfl, fun c j c1 c2 => by rw [u2_n _ _ _ _ (by omega)]; exact f1 c j c1 c2, by rw [u2_n _ _ _ _ (by omega)]; exact f2, fun k hk => ?_⟩
      by_cases e : k = i
      · subst e; rw [u2_s]; exact f1 _ _ (by omega) (by omega)
      · rw [u2_n _ _ _ _ (by omega)]; exact f3 k (by omega)
    · rintro s ⟨J1, rfl, f1, f2, f3⟩
      simp only [show ((1201 : Int32) ≤ nI 1201) = True from cm_leT (Nat.le_refl 1201) (by omega), Option.bind_some, reduceIte, if_true, if_false, Bool.false_eq_true, ck_tt]
      exact E1.ok ⟨J1, rfl, f1, f2, f3⟩
  · rintro _ ⟨J1, rfl, f1, f2, f3⟩
    simp only [mo_s hm, Option.bind_some, reduceIte, if_true, if_false, Bool.false_eq_true, ck_tt]
    exact E1.ok ⟨_, rfl, fun c j c1 c2 => by rw [u2_n _ _ _ _ (by omega)]; exact f1 c j c1 c2, by rw [u2_n _ _ _ _ (by omega)]; exact f2, u2_s _ _ _ _, fun k hk => by rw [u2_n _ _ _ _ (by omega)]; exact f3 k hk⟩
theorem op_image (h : INVp N I K J g w p P n L o hh) : E2 (F_RR_image 1000 (I, N)) (F_Mo_image 1528 (J, K)) (fun u u' => Ex tr N I K J (.inl (0, u)) (0, u')) := by
  have hN := h.1
  have hm := h.2.1
  obtain ⟨h1, h2, h3, h4, h5, h6, h7, h8, ⟨⟨q1, q2⟩, ⟨q3, q4, q5⟩, q6⟩, h10⟩ := h
  have hd := hN.2.2.2.1.2.2.1
  refine E2.mk (P := fun M => ∃ I', M = (I', rN N 1485 19 p) ∧ (∀ j k, cpd j k → I' (1485 + j) k = I (1007 + j) k) ∧ (I' 1518 3 = I 1475 3 ∧ (∀ k, k < 6 → I' (1518 + 8) k = I (1475 + 8) k) ∧ ∀ i k, i < 6 → k < 12 → I' (1518 + 2 + i) k = I (1475 + 2 + i) k) ∧ I' 1000 10 = 1 ∧ ∀ c j, ¬ (1485 ≤ c ∧ c < 1512) → ¬ (1518 ≤ c ∧ c < 1527) → ¬ (c = 1000 ∧ j = 10) → I' c j = I c j) ?_ ?_
  · unfold F_RR_image
    simp only [sp_r8 hN, sp_r2 hN, Option.bind_some, reduceIte, if_true, if_false, Bool.false_eq_true, ck_tt, v_qS, wa_k hd]
    refine E1.bind (c_copy hd hN.wn (by omega) I) ?_
    rintro _ ⟨I1, rfl, f1, f2⟩
    rw [h4]
    have hN1 : Shp (rN N 1485 19 p) := h1.nx (NXc.r19 h1.2.2.2.2.2.2.2.2.2.2.2 hd.1.1 p)
    simp only [sp_r9 hN1, sp_r7 hN1, Option.bind_some, reduceIte, if_true, if_false, Bool.false_eq_true, ck_tt, v_qS, hN1.cn2.1.1]
    refine E1.bind (c_ccopy hN1.cn2 hN1.cn (by omega) I1) ?_
    rintro _ ⟨I2, rfl, ⟨k1, k2, k3⟩, k4⟩
    simp only [v_sB (sp_k hN1) (show (1 : Int32) = 0 ∨ (1 : Int32) = 1 from Or.inr rfl), Option.bind_some, reduceIte, if_true, if_false, Bool.false_eq_true, ck_tt]
    refine E1.ok ⟨_, rfl, fun j k hjk => ?_, ⟨?_, fun k hk => ?_, fun i k hi hk => ?_⟩, u2_s _ _ _ _, fun c j c1 c2 c3 => ?_⟩
    · rw [u2_n _ _ _ _ (by omega), k4 _ (by rcases hjk with h | h | h | h | h <;> omega)]; exact f1 j k hjk
    · rw [u2_n _ _ _ _ (by omega), k1, f2 _ (by omega)]
    · rw [u2_n _ _ _ _ (by omega), k2 k hk, f2 _ (by omega)]
    · rw [u2_n _ _ _ _ (by omega), k3 i k hi hk, f2 _ (by omega)]
    · rw [u2_n _ _ _ _ c3, k4 _ (by omega), f2 _ (by omega)]
  · rintro _ ⟨I', rfl, f1, ⟨k1, k2, k3⟩, e10, f2⟩
    refine (m_image hm).imp ?_
    rintro _ ⟨J', rfl, g1, g2, g3, g4⟩
    have fr : ∀ c, ¬ (1485 ≤ c ∧ c < 1512) → ¬ (1518 ≤ c ∧ c < 1527) → c ≠ 1000 → I' c = I c := fun c c1 c2 c3 => funext fun j => f2 c j c1 c2 (by omega)
    have lz : ∀ c, LZx c → I' c = I c := fun c hc => by have := hc.ne; exact fr c (by omega) (by omega) (by omega)
    have gr : ∀ c, c ≠ 1530 → c ≠ 1528 → J' c = J c := fun c c1 c2 => funext fun j => g1 c j (by omega) (by omega)
    have r19 : ∀ b, b ≠ 1485 → kR (rN N 1485 19 p) b 19 = kR N b 19 := fun b hb => kR_n N (fun z => hb z.1)
    have hI : INVp (rN N 1485 19 p) I' K J' g w p P n L o hh := by
      refine ⟨h1.nx (NXc.r19 h1.2.2.2.2.2.2.2.2.2.2.2 hd.1.1 p), h2, ?_, ?_, ?_, ?_, ?_, ?_, ⟨⟨q1, q2⟩, ⟨?_, ?_, ?_⟩, fun i hi => ?_⟩, ?_⟩
      · rw [gr 1529 (by omega) (by omega)]; exact h3.rows fun c c1 c2 => fr c (by omega) (by omega) (by omega)
      · rw [r19 _ (by omega)]; exact h4
      · rw [gr 1529 (by omega) (by omega)]; exact h5.r19 h1 hd.1.1 p lz
      · rw [gr 1529 (by omega) (by omega)]; exact h6.cong (fun c c1 c2 => fr c (by omega) (by omega) (by omega)) (fun _ _ => rfl)
      · exact h7.cong (fr _ (by omega) (by omega) (by omega)) (fr _ (by omega) (by omega) (by omega)) (g1 _ _ (by omega) (by omega)) (gr _ (by omega) (by omega))
      · rw [f2 1000 11 (by omega) (by omega) (by omega), g1 1528 13 (by omega) (by omega)]; exact h8
      · rw [fr 1077 (by omega) (by omega) (by omega)]; exact q3
      · rw [fr 1077 (by omega) (by omega) (by omega)]; exact q4
      · rw [g1 1528 6 (by omega) (by omega)]; exact q5
      · have hmi : (o + i) % 12 < 12 := Nat.mod_lt _ (by omega)
        obtain ⟨t1, t2, t3⟩ := q6 i hi
        rw [gr 1532 (by omega) (by omega), gr 1529 (by omega) (by omega), r19 _ (by omega)]
        exact ⟨t1.rows fun c c1 c2 => fr c (by omega) (by omega) (by omega), t2, t3⟩
      · refine Or.inr ⟨e10, g3, g, w, p, P, n, (h3.copy f1).cells fun j hj => g4 j (by omega), kR_s _ _ _, (h5.r19 h1 hd.1.1 p lz).cellsB g4, h6.copy h3.g12 k1 k2 k3 fun j _ hj => g4 j (by omega)⟩
    exact ⟨I', _, J', rfl, ⟨_, _, _, _, _, _, _, _, hI⟩, fun c c1 c2 => fr c (by omega) (by omega) (by omega), fun c hc => gr c (by omega) (by omega), Or.inl ⟨0, rfl, rfl, g2⟩⟩
theorem op_back (h : INVp N I K J g w p P n L o hh) : E2 (F_RR_back 1000 (I, N)) (F_Mo_back 1528 (J, K)) (fun u u' => Ex tr N I K J (.inl u) u') := by
  have hN := h.1
  have hm := h.2.1
  have hall := h
  obtain ⟨h1, h2, h3, h4, h5, h6, h7, h8, ⟨⟨q1, q2⟩, ⟨q3, q4, q5⟩, q6⟩, h10⟩ := h
  have hs := hN.2.2.2.1.2.2.1
  have hk6 : kS N 1077 = 11 := hN.2.2.2.2.2.2.1.1
  rcases h10 with ⟨e1, e2⟩ | ⟨e1, e2, g', w', p', P', n', i3, i4, i5, i6⟩
  · have e40 : u2 J 1528 0 0 1528 4 = 0 := by rw [u2_n _ _ _ _ (by omega)]; exact e2
    unfold F_RR_back F_Mo_back
    simp only [v_fI (sp_k hN), e1, mo_s hm, mo_f hm, e40, Option.bind_some, reduceIte, if_true, if_false, Bool.false_eq_true, ck_tt]
    obtain ⟨k1, k2⟩ := hall.thr 0
    exact E2.ok ⟨I, N, _, rfl, ⟨_, _, _, _, _, _, _, _, k1⟩, fun _ _ _ => rfl, k2, Or.inl ⟨0, rfl, rfl, u2_s _ _ _ _⟩⟩
  refine E2.mk (P := fun u => ∃ I', u = (1, (I', rN N 1007 19 p')) ∧ (∀ j k, cpd j k → I' (1007 + j) k = I (1485 + j) k) ∧ (I' 1475 3 = I 1518 3 ∧ (∀ k, k < 6 → I' (1475 + 8) k = I (1518 + 8) k) ∧ ∀ i k, i < 6 → k < 12 → I' (1475 + 2 + i) k = I (1518 + 2 + i) k) ∧ I' 1077 2 = 0 ∧ ∀ c j, ¬ (1007 ≤ c ∧ c < 1034) → ¬ (1475 ≤ c ∧ c < 1484) → ¬ (c = 1077 ∧ j = 2) → I' c j = I c j) ?_ ?_
  · unfold F_RR_back F_History_clear
    simp only [v_fI (sp_k hN), e1, i32_10, sp_r8 hN, sp_r2 hN, Option.bind_some, reduceIte, if_true, if_false, Bool.false_eq_true, ck_tt, v_qS, wa_k hN.wn]
    refine E1.bind (c_copy hN.wn hs (by omega) I) ?_
    rintro _ ⟨I1, rfl, f1, f2⟩
    rw [i4]
    have hN1 : Shp (rN N 1007 19 p') := h1.nx (NXc.r19 h1.2.2.2.2.2.2.2.2.2.2.2 hN.wn.1.1 p')
    have hk61 : kS (rN N 1007 19 p') 1077 = 11 := hk6
    simp only [sp_r9 hN1, sp_r7 hN1, Option.bind_some, reduceIte, if_true, if_false, Bool.false_eq_true, ck_tt, v_qS, hN1.cn.1.1]
    refine E1.bind (c_ccopy hN1.cn hN1.cn2 (by omega) I1) ?_
    rintro _ ⟨I2, rfl, ⟨k1, k2, k3⟩, k4⟩
    simp only [sp_r6 hN1, Option.bind_some, reduceIte, if_true, if_false, Bool.false_eq_true, ck_tt, v_qS, hk61, v_sI hk61]
    refine E1.ok ⟨_, rfl, fun j k hjk => ?_, ⟨?_, fun k hk => ?_, fun i k hi hk => ?_⟩, u2_s _ _ _ _, fun c j c1 c2 c3 => ?_⟩
    · rw [u2_n _ _ _ _ (by rcases hjk with h | h | h | h | h <;> omega), k4 _ (by rcases hjk with h | h | h | h | h <;> omega)]; exact f1 j k hjk
    · rw [u2_n _ _ _ _ (by omega), k1, f2 _ (by omega)]
    · rw [u2_n _ _ _ _ (by omega), k2 k hk, f2 _ (by omega)]
    · rw [u2_n _ _ _ _ (by omega), k3 i k hi hk, f2 _ (by omega)]
    · rw [u2_n _ _ _ _ c3, k4 _ (by omega), f2 _ (by omega)]
  · rintro _ ⟨I', rfl, f1, ⟨k1, k2, k3⟩, e10, f2⟩
    refine (m_back hm e2).imp ?_
    rintro _ ⟨J', rfl, g1, g2, g3, g4⟩
    have fr : ∀ c, ¬ (1007 ≤ c ∧ c < 1034) → ¬ (1475 ≤ c ∧ c < 1484) → c ≠ 1077 → I' c = I c := fun c c1 c2 c3 => funext fun j => f2 c j c1 c2 (by omega)
    have lz : ∀ c, LZx c → I' c = I c := fun c hc => by have := hc.ne; exact fr c (by omega) (by omega) (by omega)
    have gr : ∀ c, c ≠ 1529 → c ≠ 1528 → J' c = J c := fun c c1 c2 => funext fun j => g1 c j (by omega) (by omega)
    have hI : INVp (rN N 1007 19 p') I' K J' g' w' p' P' n' L o 0 := by
      refine ⟨h1.nx (NXc.r19 h1.2.2.2.2.2.2.2.2.2.2.2 h1.wn.1.1 p'), h2, (i3.copy f1).cells fun j hj => g4 j (by omega), kR_s _ _ _, (i5.r19 h1 h1.wn.1.1 p' lz).cellsB g4, i6.copy i3.g12 k1 k2 k3 fun j _ hj => g4 j (by omega), ?_, ?_, ⟨⟨q1, by omega⟩, ⟨?_, e10, g3⟩, fun i hi => absurd hi (Nat.not_lt_zero _)⟩, ?_⟩
      · exact h7.cong (fr _ (by omega) (by omega) (by omega)) (fr _ (by omega) (by omega) (by omega)) (g1 _ _ (by omega) (by omega)) (gr _ (by omega) (by omega))
      · rw [fr 1000 (by omega) (by omega) (by omega), g1 1528 13 (by omega) (by omega)]; exact h8
      · rw [f2 1077 1 (by omega) (by omega) (by omega)]; exact q3
      · refine IMr.r19 (Or.inr ⟨e1, e2, g', w', p', P', n', i3, i4, i5, i6⟩) h1 h1.wn.1.1 (by omega) (congrFun (fr _ (by omega) (by omega) (by omega)) _) (g1 _ _ (by omega) (by omega)) (gr _ (by omega) (by omega)) (fun c c1 c2 => fr c (by omega) (by omega) (by omega)) lz
    exact ⟨I', _, J', rfl, ⟨_, _, _, _, _, _, _, _, hI⟩, fun c c1 c2 => fr c (by omega) (by omega) (by omega), fun c hc => gr c (by omega) (by omega), Or.inl ⟨1, rfl, rfl, g2⟩⟩
end IMAGE
