/-! one walker more -/
section WALK
variable {a k n q i j c d g w v : Nat} {I I' I2 : IM} {N N' K : NM} {J J' : IM} {W W' : Nat → Int32} {x y z : Int32}
def wkI (a : Nat) (I : IM) (w : Nat) (x y : Int32) : IM := u2 (u2 I (a + 5) w x) (a + 6) w y
def inW (W : Nat → Int32) (w n : Nat) : Nat → Int32 := fun j => if 45 + 30 * w ≤ j ∧ j < 45 + 30 * w + n then (if 45 + 30 * w + 6 ≤ j then -1 else 0) else W j
def wkW (W : Nat → Int32) (w : Nat) (x y : Int32) : Nat → Int32 := upd (upd (inW W w 30) (45 + 30 * w + 1) x) (45 + 30 * w + 2) y
def mlW (W : Nat → Int32) (v : Nat) (x : Int32) : Nat → (Nat → Int32)
  | 0 => W
  | i + 1 => if bt x i = true then lrnW (mlW W v x i) v i 1 else mlW W v x i
theorem inW_o (h : ¬ (45 + 30 * w ≤ j ∧ j < 45 + 30 * w + n)) : inW W w n j = W j := if_neg h
theorem inW_s (hi : i < 30) : upd (inW W w i) (45 + 30 * w + i) (if 6 ≤ i then -1 else 0) = inW W w (i + 1) := by
  refine funext fun j => ?_
  by_cases e : j = 45 + 30 * w + i
  · rw [e, pk_us]
    unfold inW
    rw [if_pos (show 45 + 30 * w ≤ 45 + 30 * w + i ∧ 45 + 30 * w + i < 45 + 30 * w + (i + 1) by omega)]
    by_cases z : 6 ≤ i
    · rw [if_pos z, if_pos (show 45 + 30 * w + 6 ≤ 45 + 30 * w + i by omega)]
    · rw [if_neg z, if_neg (show ¬ 45 + 30 * w + 6 ≤ 45 + 30 * w + i by omega)]
  · rw [pk_un e]
    unfold inW
    by_cases z : 45 + 30 * w ≤ j ∧ j < 45 + 30 * w + i
    · rw [if_pos z, if_pos (show 45 + 30 * w ≤ j ∧ j < 45 + 30 * w + (i + 1) by omega)]
    · rw [if_neg z, if_neg (show ¬ (45 + 30 * w ≤ j ∧ j < 45 + 30 * w + (i + 1)) by omega)]
theorem wkI_o (h : ¬ ((c = a + 5 ∨ c = a + 6) ∧ j = w)) : wkI a I w x y c j = I c j := by
  unfold wkI
  rw [u2_n _ _ _ _ (by omega), u2_n _ _ _ _ (by omega)]
theorem wkW_o (h : ¬ (45 + 30 * w ≤ j ∧ j < 75 + 30 * w)) : wkW W w x y j = W j := by
  unfold wkW
  rw [pk_un (by omega), pk_un (by omega), inW_o (by omega)]
theorem wkW_z (hj : j < 30) (h1 : j ≠ 1) (h2 : j ≠ 2) : wkW W w x y (45 + 30 * w + j) = if 6 ≤ j then -1 else 0 := by
  unfold wkW inW
  rw [pk_un (by omega), pk_un (by omega), if_pos (by omega)]
  by_cases z : 6 ≤ j
  · rw [if_pos z, if_pos (by omega)]
  · rw [if_neg z, if_neg (by omega)]
/-- a walker who knows nothing yet -/
theorem WR.walk0 (h : WR a I W g w) (hw : w < 8) {m : Nat} (hm : m ≤ 99) (x : Int32) : WR a (u2 (wkI a I w x (nI m)) a 4 (nI (w + 1))) (upd (wkW W w x (nI m)) 1 (nI (w + 1))) g (w + 1) := by
  have h12 := h.g12
  have hI : ∀ c j, ¬ (c = a ∧ j = 4) → ¬ ((c = a + 5 ∨ c = a + 6) ∧ j = w) → u2 (wkI a I w x (nI m)) a 4 (nI (w + 1)) c j = I c j := fun c j z1 z2 => by rw [u2_n _ _ _ _ z1, wkI_o z2]
  have hW : ∀ j, j ≠ 1 → ¬ (45 + 30 * w ≤ j ∧ j < 75 + 30 * w) → upd (wkW W w x (nI m)) 1 (nI (w + 1)) j = W j := fun j z1 z2 => by rw [pk_un z1, wkW_o z2]
  have hZ : ∀ j, j < 30 → j ≠ 1 → j ≠ 2 → upd (wkW W w x (nI m)) 1 (nI (w + 1)) (45 + 30 * w + j) = if 6 ≤ j then -1 else 0 := fun j j1 j2 j3 => by rw [pk_un (by omega), wkW_z j1 j2 j3]
  obtain ⟨h1, h2, h3, h4, h5⟩ := h
  refine ⟨⟨h1.1, by omega⟩, ?_, fun k hk => (h3 k hk).congr (hI _ _ (by omega) (by omega)) (hI _ _ (by omega) (by omega)) (hI _ _ (by omega) (by omega)) (fun j hj => hW _ (by omega) (by omega)), fun k hk => ?_, fun k hk hk8 => ?_⟩
  · unfold WA at h2 ⊢
    simp only [hI a 0 (by omega) (by omega), hI a 13 (by omega) (by omega), hI a 14 (by omega) (by omega), hI a 15 (by omega) (by omega), hI a 16 (by omega) (by omega), hI a 17 (by omega) (by omega), hI a 18 (by omega) (by omega), hW 0 (by omega) (by omega), hW 2 (by omega) (by omega), hW 4 (by omega) (by omega), hW 5 (by omega) (by omega), hW 6 (by omega) (by omega), hW 7 (by omega) (by omega), hW 8 (by omega) (by omega)]
    exact ⟨h2.1, ⟨u2_s _ _ _ _, pk_us⟩, h2.2.2⟩
  · by_cases e : k = w
    · subst e
      obtain ⟨e1, e2, e3, e4, e5⟩ := h5 k (Nat.le_refl _) hw
      have v5 : u2 (wkI a I k x (nI m)) a 4 (nI (k + 1)) (a + 5) k = x := by rw [u2_n _ _ _ _ (by omega)]; unfold wkI; rw [u2_n _ _ _ _ (by omega), u2_s]
      have v6 : u2 (wkI a I k x (nI m)) a 4 (nI (k + 1)) (a + 6) k = nI m := by rw [u2_n _ _ _ _ (by omega)]; unfold wkI; rw [u2_s]
      unfold WC
      rw [v5, v6, hI a 12 (by omega) (by omega), hI (a + 4) k (by omega) (by omega), hI (a + 7) k (by omega) (by omega), hI (a + 8) k (by omega) (by omega), e1, e2, e3, e4, hZ 0 (by omega) (by omega) (by omega), hZ 3 (by omega) (by omega) (by omega), hZ 4 (by omega) (by omega) (by omega), hZ 5 (by omega) (by omega) (by omega)]
      refine ⟨⟨rfl, ?_, ?_, rfl, rfl, rfl⟩, fun j hj => ?_, fun j hj hb => ?_, ⟨0, by omega, rfl⟩, fun j j1 j2 => bt_zero j2, fun j j1 hb => ?_, fun j hj => ?_, ⟨m, hm, rfl⟩⟩
      · rw [pk_un (by omega)]; unfold wkW; rw [pk_un (by omega), pk_us]
      · rw [pk_un (by omega)]; unfold wkW; rw [pk_us]
      · rw [hZ _ (by omega) (by omega) (by omega), hI _ _ (by omega) (by omega), e5 j hj, if_pos (by omega)]
      · rw [bt_zero (by omega)] at hb; cases hb
      · rw [bt_zero j1] at hb; cases hb
      · rw [hI _ _ (by omega) (by omega)]; exact Or.inl (e5 j hj)
    · exact (h4 k (by omega)).congr (fun j _ _ => hI _ _ (by omega) (by omega)) (hI _ _ (by omega) (by omega)) (fun q _ => hI _ _ (by omega) (by omega)) (fun q _ => hI _ _ (by omega) (by omega)) h12 (fun j hj => hW _ (by omega) (by omega))
  · obtain ⟨e1, e2, e3, e4, e5⟩ := h5 k (by omega) hk8
    exact ⟨by rw [hI _ _ (by omega) (by omega)]; exact e1, by rw [hI _ _ (by omega) (by omega)]; exact e2, by rw [hI _ _ (by omega) (by omega)]; exact e3, by rw [hI _ _ (by omega) (by omega)]; exact e4, fun q hq => by rw [hI _ _ (by omega) (by omega)]; exact e5 q hq⟩
/-- a walker's answers, one after another -/
theorem WR.many (h : WR a I W g w) (hn : WN N a) (hv : v < w) (hx : inG x g) : ∀ i, i ≤ 12 → ∃ I', LrnI a v (msV x i) x I I' ∧ WR a I' (mlW W v x i) g w
  | 0, _ => ⟨I, LrnI.none, h⟩
  | i + 1, hi => by
    have h8 := h.w8
    obtain ⟨I1, l1, w1⟩ := WR.many h hn hv hx i (by omega)
    show ∃ I', LrnI a v (msV x i ||| _) x I I' ∧ WR a I' (if bt x i = true then lrnW (mlW W v x i) v i 1 else mlW W v x i) g w
    by_cases hb : bt x i = true
    · have hi : i < g := Nat.not_le.mp fun z => by rw [hx i z (by omega)] at hb; cases hb
      obtain ⟨M, -, I2, -, l2⟩ := c_learn hn (show v < 8 by omega) ((1 : Int32) <<< (nI i &&& 31)) x I1
      rw [if_pos hb, if_pos hb]
      exact ⟨I2, l1.more l2, w1.learn hv hi (by rw [if_pos hb]) l2⟩
    · rw [if_neg hb, if_neg hb]
      refine ⟨I1, ?_, w1⟩
      rw [show msV x i ||| 0 = msV x i from bt_ext fun j hj => by rw [bt_or hj, bt_zero hj, Bool.or_false]]
      exact l1
theorem lrnW_1 (z : Int32) : lrnW (upd W 1 z) v q y = upd (lrnW W v q y) 1 z := by
  unfold lrnW
  rw [pk_un (show 45 + 30 * v + 3 ≠ 1 by omega), pk_un (show 45 + 30 * v + 4 ≠ 1 by omega), pk_un (show 4 ≠ 1 by omega), upd_comm (show 1 ≠ 45 + 30 * v + 3 by omega), upd_comm (show 1 ≠ 45 + 30 * v + 4 by omega), upd_comm (show 1 ≠ 45 + 30 * v + (6 + q) by omega)]
theorem mlW_1 (z : Int32) : ∀ i, mlW (upd W 1 z) v x i = upd (mlW W v x i) 1 z
  | 0 => rfl
  | i + 1 => by
    show (if bt x i = true then lrnW (mlW (upd W 1 z) v x i) v i 1 else mlW (upd W 1 z) v x i) = upd (if bt x i = true then lrnW (mlW W v x i) v i 1 else mlW W v x i) 1 z
    rw [mlW_1 z i]
    by_cases hb : bt x i = true
    · rw [if_pos hb, if_pos hb, lrnW_1]
    · rw [if_neg hb, if_neg hb]
theorem mlW_o (hj : ¬ (45 + 30 * v ≤ j ∧ j < 75 + 30 * v)) : ∀ i, i ≤ 12 → mlW W v x i j = W j
  | 0, _ => rfl
  | i + 1, hi => by
    show (if bt x i = true then lrnW (mlW W v x i) v i 1 else mlW W v x i) j = W j
    by_cases hb : bt x i = true
    · rw [if_pos hb]
      unfold lrnW
      rw [pk_un (by omega), pk_un (by omega), pk_un (by omega), mlW_o hj i (by omega)]
    · rw [if_neg hb, mlW_o hj i (by omega)]
theorem LrnI.set4 {b t : Int32} (h : LrnI a w b t I I') (z : Int32) : LrnI a w b t (u2 I a 4 z) (u2 I' a 4 z) := by
  obtain ⟨h1, h2, h3, h4⟩ := h
  refine ⟨?_, ?_, fun q hq => ?_, fun c j c1 c2 c3 => ?_⟩
  · rw [u2_n _ _ _ _ (by omega), u2_n _ _ _ _ (by omega)]; exact h1
  · rw [u2_n _ _ _ _ (by omega), u2_n _ _ _ _ (by omega)]; exact h2
  · rw [u2_n _ _ _ _ (by omega), u2_n _ _ _ _ (by omega), u2_n _ _ _ _ (by omega)]; exact h3 q hq
  · by_cases e : c = a ∧ j = 4
    · rw [e.1, e.2, u2_s, u2_s]
    · rw [u2_n _ _ _ _ e, u2_n _ _ _ _ e]; exact h4 c j c1 c2 c3
/-- a walker more, of both -/
theorem WR.walk (h : WR a I W g w) (hn : WN N a) (hw : w < 8) {m : Nat} (hm : m ≤ 99) (hy : inG y g) (hL : LrnI a w y y (wkI a I w x (nI m)) I2) : WR a (u2 I2 a 4 (nI (w + 1))) (upd (mlW (wkW W w x (nI m)) w y 12) 1 (nI (w + 1))) g (w + 1) := by
  have h12 := h.g12
  obtain ⟨I3, l3, w3⟩ := (h.walk0 hw hm x).many hn (show w < w + 1 by omega) hy 12 (by omega)
  rw [ms_all (by omega) (fun j h1 h2 => hy j (by omega) h2)] at l3
  rw [mlW_1, l3.one (hL.set4 (nI (w + 1)))] at w3
  exact w3
theorem c_addWalker (hn : WN N a) (e : I a 4 = nI w) (hw : w < 8) (x y z : Int32) : E1 (F_World_addWalker a x y z (I, N)) (fun M => ∃ I2, M = (u2 I2 a 4 (nI (w + 1)), N) ∧ LrnI a w z z (wkI a I w x y) I2) := by
  unfold F_World_addWalker
  simp only [Option.bind_some, reduceIte, if_true, if_false, Bool.false_eq_true, ck_tt, v_qS, wa_k hn, wa_f hn, wa_s hn, wa_r1 hn, wa_r2 hn, wa_r3 hn, wa_r5 hn, wa_r6 hn, wa_r7 hn, wa_r8 hn, wa_r9 hn, wa_r10 hn, wa_r11 hn, e, show ((8 : Int32) ≤ nI w) = False from cm_leF (b := 8) hw (by omega), u2_n _ _ _ _ (show ¬ (a = a + 5 ∧ 4 = w) by omega), u2_n _ _ _ _ (show ¬ (a = a + 6 ∧ 4 = w) by omega), wa_t5 hn hw, wa_t6 hn hw]
  refine E1.bind (c_learn hn hw z z (wkI a I w x y)) ?_
  rintro M ⟨I2, rfl, hL⟩
  have e4 : I2 a 4 = nI w := by rw [hL.2.2.2 a 4 (by omega) (by omega) (by omega), wkI_o (by omega)]; exact e
  simp only [Option.bind_some, reduceIte, if_true, if_false, Bool.false_eq_true, ck_tt, v_qS, wa_k hn, wa_f hn, wa_s hn, wa_r1 hn, wa_r2 hn, wa_r3 hn, wa_r5 hn, wa_r6 hn, wa_r7 hn, wa_r8 hn, wa_r9 hn, wa_r10 hn, wa_r11 hn, e4, show nI w + (1 : Int32) = nI (w + 1) from nI_add w 1]
  exact E1.ok ⟨I2, rfl, hL⟩
/-- the other side's cells of a new walker -/
theorem m_init (hm : MN K) (hw : w < 8) : loopN LIM (fun s17 : Int32 × Mem => if (30 : Int32) ≤ s17.1 then (some (.inr (s17.2))) else ((if (6 : Int32) ≤ s17.1 then (some (-1 : Int32)) else (some (0 : Int32)) : Option (Int32)).bind fun s20 => (ck (qS s17.2 1528 = 19)).bind fun h22 => (F_Mo_sets 1528 (nI w) s17.1 s20 s17.2).bind fun v21 => some (.inl ((s17.1 + (1 : Int32)), v21)))) ((0 : Int32), (rowI J 1529 W, K)) = some (rowI J 1529 (inW W w 30), K) := by
  refine E1.eq (lq1 (fun i s => s = (nI i, (rowI J 1529 (inW W w i), K))) _ 30 (lim_lt (by omega)) (Nat.zero_le _) ?_ ?_ ?_)
  · refine congrArg (fun f => ((0 : Int32), (rowI J 1529 f, K))) (funext fun j => ?_)
    exact (inW_o (by omega)).symm
  · rintro i s hi rfl
    simp only [show ((30 : Int32) ≤ nI i) = False from cm_leF (b := 30) hi (by omega), Option.bind_some, reduceIte, if_true, if_false, Bool.false_eq_true, ck_tt, v_qS, mo_k hm, mw_f hm, mo_r1 hm, mw_gates hm, mw_walkers hm]
    by_cases z : 6 ≤ i
    · simp only [show ((6 : Int32) ≤ nI i) = True from cm_leT (b := 6) z (by omega), Option.bind_some, reduceIte, if_true, if_false, Bool.false_eq_true, ck_tt, v_qS, mo_k hm, mw_f hm, mo_r1 hm, mw_gates hm, mw_walkers hm, mw_stk hm hw hi]
      refine E1.ok ?_
      show _ = _
      rw [← inW_s hi, if_pos z, nI_1]
    · simp only [show ((6 : Int32) ≤ nI i) = False from cm_leF (b := 6) (by omega) (by omega), Option.bind_some, reduceIte, if_true, if_false, Bool.false_eq_true, ck_tt, v_qS, mo_k hm, mw_f hm, mo_r1 hm, mw_gates hm, mw_walkers hm, mw_stk hm hw hi]
      refine E1.ok ?_
      show _ = _
      rw [← inW_s hi, if_neg z, nI_1]
  · rintro s rfl
    simp only [show ((30 : Int32) ≤ nI 30) = True from cm_leT (b := 30) (Nat.le_refl _) (by omega), Option.bind_some, reduceIte, if_true, if_false, Bool.false_eq_true, ck_tt]
    exact E1.ok rfl
theorem m_many (hm : MN K) (hw : w < 8) : loopN LIM (fun s28 : Int32 × Mem => if (12 : Int32) ≤ s28.1 then (some (.inr (s28.2))) else ((F_Mo_has x s28.1 s28.2).bind fun v30 => if v30 = 0 then (some (.inl ((s28.1 + (1 : Int32)), s28.2))) else ((ck (qS s28.2 1528 = 19)).bind fun h33 => (F_Mo_learns 1528 (nI w) s28.1 (1 : Int32) s28.2).bind fun v32 => some (.inl ((s28.1 + (1 : Int32)), v32))))) ((0 : Int32), (rowI J 1529 W, K)) = some (rowI J 1529 (mlW W w x 12), K) := by
  refine E1.eq (lq1 (fun i s => s = (nI i, (rowI J 1529 (mlW W w x i), K))) _ 12 (lim_lt (by omega)) (Nat.zero_le _) rfl ?_ ?_)
  · rintro i s hi rfl
    simp only [show ((12 : Int32) ≤ nI i) = False from cm_leF (b := 12) hi (by omega), Option.bind_some, reduceIte, if_true, if_false, Bool.false_eq_true, ck_tt, mo_has rfl]
    by_cases z : bt x i = true
    · simp only [z, Option.bind_some, reduceIte, if_true, if_false, Bool.false_eq_true, ck_tt, i32_10, v_qS, mo_k hm, mw_f hm, mo_r1 hm, mw_gates hm, mw_walkers hm, m_learns hm hw hi]
      refine E1.ok ?_
      show _ = (nI (i + 1), (rowI J 1529 (if bt x i = true then lrnW (mlW W w x i) w i 1 else mlW W w x i), K))
      rw [if_pos z, nI_1]
    · simp only [z, Option.bind_some, reduceIte, if_true, if_false, Bool.false_eq_true, ck_tt, i32_00]
      refine E1.ok ?_
      show _ = (nI (i + 1), (rowI J 1529 (if bt x i = true then lrnW (mlW W w x i) w i 1 else mlW W w x i), K))
      rw [if_neg z, nI_1]
  · rintro s rfl
    simp only [show ((12 : Int32) ≤ nI 12) = True from cm_leT (b := 12) (Nat.le_refl _) (by omega), Option.bind_some, reduceIte, if_true, if_false, Bool.false_eq_true, ck_tt]
    exact E1.ok rfl
end WALK
