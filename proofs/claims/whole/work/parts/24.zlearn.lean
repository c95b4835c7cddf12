/-! learning, forgetting: one walker's rows change -/
def Fr (a : Nat) (I I' : IM) : Prop := ∀ c, ¬ (a ≤ c ∧ c < a + 27) → I' c = I c
/-- the flat row's chains and law stay -/
def FW (W W' : Nat → Int32) : Prop := W' 3 = W 3 ∧ ∀ j, 285 ≤ j → W' j = W j
def FF (a : Nat) (I I' : IM) (W W' : Nat → Int32) : Prop := Fr a I I' ∧ FW W W'
/-- both go on: the rest as it was, the two worlds related -/
def MU (a : Nat) (N : NM) (I : IM) (K : NM) (J : IM) (W : Nat → Int32) (g w : Nat) (M M' : Mem) : Prop := ∃ I' W', M = (I', N) ∧ M' = (rowI J 1529 W', K) ∧ FF a I I' W W' ∧ WR a I' W' g w
theorem FW.id {W : Nat → Int32} : FW W W := ⟨rfl, fun _ _ => rfl⟩
theorem FW.trans {W W' W2 : Nat → Int32} (h : FW W W') (h' : FW W' W2) : FW W W2 := ⟨h'.1.trans h.1, fun j hj => (h'.2 j hj).trans (h.2 j hj)⟩
theorem FW.upd {W W' : Nat → Int32} {k : Nat} {x : Int32} (h : FW W W') (hk : k < 285 ∧ k ≠ 3) : FW W (upd W' k x) := ⟨(pk_un (by omega)).trans h.1, fun j hj => (pk_un (by omega)).trans (h.2 j hj)⟩
section LRN
variable {a g w k v q : Nat} {I I' I2 : IM} {W W' : Nat → Int32} {N K : NM} {J : IM}
theorem Fr.id : Fr a I I := fun _ _ => rfl
theorem Fr.trans (h : Fr a I I') (h' : Fr a I' I2) : Fr a I I2 := fun c hc => (h' c hc).trans (h c hc)
/-- what is not walker v's stays -/
def OnW (a v : Nat) (I I' : IM) : Prop := ∀ c j, ¬ ((a + 4 ≤ c ∧ c ≤ a + 8 ∧ j = v) ∨ (c = a + 10 + v ∧ j < 12) ∨ (c = a + 19 + v ∧ j < 12)) → I' c j = I c j
theorem OnW.fr (h : OnW a v I I') (hv : v < 8) : Fr a I I' := fun c hc => funext fun j => h c j (by omega)
theorem OnW.trans (h : OnW a v I I') (h' : OnW a v I' I2) : OnW a v I I2 := fun c j hc => (h' c j hc).trans (h c j hc)
theorem WR.walker (h : WR a I W g w) (hv : v < w) (hI : OnW a v I I') (hW : ∀ j, ¬ (45 + 30 * v ≤ j ∧ j < 75 + 30 * v) → W' j = W j) (new : WC a I' W' g v) : WR a I' W' g w := by
  have h8 := h.w8
  have h12 := h.g12
  obtain ⟨h1, h2, h3, h4, h5⟩ := h
  refine ⟨h1, ?_, fun k hk => (h3 k hk).congr (hI _ _ (by omega)) (hI _ _ (by omega)) (hI _ _ (by omega)) (fun j hj => hW _ (by omega)), fun k hk => ?_, fun k hk hk8 => ?_⟩
  · unfold WA at h2 ⊢
    simp only [hI a 0 (by omega), hI a 4 (by omega), hI a 13 (by omega), hI a 14 (by omega), hI a 15 (by omega), hI a 16 (by omega), hI a 17 (by omega), hI a 18 (by omega), hW 0 (by omega), hW 1 (by omega), hW 2 (by omega), hW 4 (by omega), hW 5 (by omega), hW 6 (by omega), hW 7 (by omega), hW 8 (by omega)]
    exact h2
  · by_cases e : k = v
    · subst e; exact new
    · exact (h4 k hk).congr (fun j _ _ => hI _ _ (by omega)) (hI _ _ (by omega)) (fun q _ => hI _ _ (by omega)) (fun q _ => hI _ _ (by omega)) h12 (fun j hj => hW _ (by omega))
  · exact (h5 k hk hk8).congr (fun j _ _ => hI _ _ (by omega)) (hI _ _ (by omega)) (fun q _ => hI _ _ (by omega))
/-- the answers b come to walker w, true as t tells -/
def LrnI (a w : Nat) (b t : Int32) (I I' : IM) : Prop := I' (a + 7) w = (I (a + 7) w ||| b) ∧ I' (a + 8) w = ((I (a + 8) w &&& (b ^^^ (-1 : Int32))) ||| (b &&& t)) ∧ (∀ q, q < 12 → I' (a + 10 + w) q = if bt b q = true then I a 16 else I (a + 10 + w) q) ∧ ∀ c j, (c = a + 7 → j ≠ w) → (c = a + 8 → j ≠ w) → (c = a + 10 + w → 12 ≤ j) → I' c j = I c j
theorem LrnI.on {b t : Int32} (h : LrnI a w b t I I') : OnW a w I I' := fun c j hc => h.2.2.2 c j (by omega) (by omega) (by omega)
theorem LrnI.one {b t : Int32} (h : LrnI a w b t I I') (h' : LrnI a w b t I I2) : I' = I2 := by
  refine funext fun c => funext fun j => ?_
  by_cases e7 : c = a + 7 ∧ j = w
  · rw [e7.1, e7.2, h.1, h'.1]
  · by_cases e8 : c = a + 8 ∧ j = w
    · rw [e8.1, e8.2, h.2.1, h'.2.1]
    · by_cases e10 : c = a + 10 + w ∧ j < 12
      · rw [e10.1, h.2.2.1 j e10.2, h'.2.2.1 j e10.2]
      · rw [h.2.2.2 c j (by omega) (by omega) (by omega), h'.2.2.2 c j (by omega) (by omega) (by omega)]
theorem LrnI.more {b b' t : Int32} (h : LrnI a w b t I I') (h' : LrnI a w b' t I' I2) : LrnI a w (b ||| b') t I I2 := by
  refine ⟨?_, ?_, fun q hq => ?_, fun c j h1 h2 h3 => by rw [h'.2.2.2 c j h1 h2 h3, h.2.2.2 c j h1 h2 h3]⟩
  · rw [h'.1, h.1]
    refine bt_ext fun j hj => ?_
    simp only [bt_or hj, Bool.or_assoc]
  · rw [h'.2.1, h.2.1]
    refine bt_ext fun j hj => ?_
    simp only [bt_or hj, bt_and hj, bt_not hj]
    cases bt b j <;> cases bt b' j <;> cases bt t j <;> cases bt (I (a + 8) w) j <;> rfl
  · rw [h'.2.2.1 q hq, h.2.2.1 q hq, h.2.2.2 a 16 (by omega) (by omega) (by omega), bt_or (by omega)]
    cases bt b q <;> cases bt b' q <;> rfl
theorem LrnI.none {t : Int32} : LrnI a w 0 t I I := by
  refine ⟨?_, ?_, fun q hq => ?_, fun _ _ _ _ _ => rfl⟩
  · refine bt_ext fun j hj => ?_
    rw [bt_or hj, bt_zero hj, Bool.or_false]
  · refine bt_ext fun j hj => ?_
    rw [bt_or hj, bt_and hj, bt_and hj, bt_not hj, bt_zero hj]; simp
  · rw [bt_zero (by omega)]; rfl
theorem c_learn (hn : WN N a) (hw : w < 8) (b t : Int32) (I : IM) : E1 (F_World_learn a (nI w) b t (I, N)) (fun M => ∃ I', M = (I', N) ∧ LrnI a w b t I I') := by
  unfold F_World_learn
  simp only [Option.bind_some, reduceIte, if_true, if_false, Bool.false_eq_true, ck_tt, v_qS, wa_k hn, wa_f hn, wa_s hn, wa_r1 hn, wa_r2 hn, wa_r3 hn, wa_r5 hn, wa_r6 hn, wa_r7 hn, wa_r8 hn, wa_r9 hn, wa_r10 hn, wa_r11 hn, wa_w4 hn hw, wa_w5 hn hw, wa_w6 hn hw, wa_w7 hn hw, wa_w8 hn hw, wa_t4 hn hw, wa_t5 hn hw, wa_t6 hn hw, wa_t7 hn hw, wa_t8 hn hw, wa_q9 hn hw, wa_q18 hn hw]
  refine lq1 (fun i s => ∃ I', s = (nI i, (I', N)) ∧ I' (a + 7) w = (I (a + 7) w ||| b) ∧ I' (a + 8) w = ((I (a + 8) w &&& (b ^^^ (-1 : Int32))) ||| (b &&& t)) ∧ (∀ q, q < 12 → I' (a + 10 + w) q = if bt b q = true ∧ q < i then I a 16 else I (a + 10 + w) q) ∧ ∀ c j, (c = a + 7 → j ≠ w) → (c = a + 8 → j ≠ w) → (c = a + 10 + w → 12 ≤ j) → I' c j = I c j) _ 12 (lim_lt (by omega)) (Nat.zero_le _) ?_ ?_ ?_
  · refine ⟨_, rfl, ?_, ?_, ?_, ?_⟩
    · rw [u2_o _ _ _ _ (by omega), u2_s]
    · rw [u2_s, u2_o _ _ _ _ (by omega)]
    · intro q hq
      rw [u2_o _ _ _ _ (by omega), u2_o _ _ _ _ (by omega), if_neg (fun z => Nat.not_lt_zero _ z.2)]
    · intro c j h1 h2 h3
      rw [u2_n _ _ _ _ (fun e => h2 e.1 e.2), u2_n _ _ _ _ (fun e => h1 e.1 e.2)]
  · rintro i s hi ⟨I1, rfl, e1, e2, e3, e4⟩
    have h16 : I1 a 16 = I a 16 := e4 a 16 (by omega) (by omega) (by omega)
    simp only [Option.bind_some, reduceIte, if_true, if_false, Bool.false_eq_true, ck_tt, show ((12 : Int32) ≤ nI i) = False from cm_leF (b := 12) hi (by omega), bt_iff, v_qS, wa_k hn, wa_f hn, wa_s hn, wa_r1 hn, wa_r2 hn, wa_r3 hn, wa_r5 hn, wa_r6 hn, wa_r7 hn, wa_r8 hn, wa_r9 hn, wa_r10 hn, wa_r11 hn, wa_q9 hn hw, wa_b9 hn hw hi]
    by_cases hb : bt b i = true
    · rw [if_pos hb]
      refine E1.ok ⟨_, Prod.ext (nI_1 i) rfl, ?_, ?_, ?_, ?_⟩
      · rw [u2_o _ _ _ _ (by omega)]; exact e1
      · rw [u2_o _ _ _ _ (by omega)]; exact e2
      · intro q hq
        by_cases e : q = i
        · subst e
          rw [u2_s, if_pos ⟨hb, Nat.lt_succ_self _⟩, h16]
        · rw [u2_n _ _ _ _ (fun z => e z.2), e3 q hq]
          by_cases hq2 : bt b q = true ∧ q < i
          · rw [if_pos hq2, if_pos ⟨hq2.1, by omega⟩]
          · rw [if_neg hq2, if_neg (fun z => hq2 ⟨z.1, by omega⟩)]
      · intro c j h1 h2 h3
        rw [u2_n _ _ _ _ (fun z => by have := h3 z.1; omega)]
        exact e4 c j h1 h2 h3
    · rw [if_neg hb]
      refine E1.ok ⟨_, Prod.ext (nI_1 i) rfl, e1, e2, ?_, e4⟩
      intro q hq
      rw [e3 q hq]
      by_cases hq2 : bt b q = true ∧ q < i
      · rw [if_pos hq2, if_pos ⟨hq2.1, by omega⟩]
      · rw [if_neg hq2, if_neg (fun z => hq2 ⟨z.1, by
          have h9 : q ≠ i := fun y => hb (y ▸ z.1)
          omega⟩)]
  · rintro s ⟨I1, rfl, e1, e2, e3, e4⟩
    simp only [Option.bind_some, reduceIte, if_true, if_false, Bool.false_eq_true, ck_tt, show ((12 : Int32) ≤ nI 12) = True from cm_leT (b := 12) (Nat.le_refl 12) (by omega)]
    refine E1.ok ⟨I1, rfl, e1, e2, fun q hq => ?_, e4⟩
    rw [e3 q hq]
    by_cases hb : bt b q = true
    · rw [if_pos hb, if_pos ⟨hb, hq⟩]
    · rw [if_neg hb, if_neg (fun z => hb z.1)]
/-- one answer, put into the other world -/
def lrnW (W : Nat → Int32) (v q : Nat) (y : Int32) : Nat → Int32 := upd (upd (upd W (45 + 30 * v + 3) (W (45 + 30 * v + 3) ||| ((1 : Int32) <<< (nI q &&& 31)))) (45 + 30 * v + 4) (if y = 0 then W (45 + 30 * v + 4) &&& (((1 : Int32) <<< (nI q &&& 31)) ^^^ (-1 : Int32)) else W (45 + 30 * v + 4) ||| ((1 : Int32) <<< (nI q &&& 31)))) (45 + 30 * v + (6 + q)) (W 4)
theorem FW.lrn {y : Int32} (hv : v < 8) (hq : q < 12) : FW W (lrnW W v q y) := ((FW.id.upd (by omega)).upd (by omega)).upd (by omega)
theorem m_learns (hm : MN K) (hv8 : v < 8) (hq12 : q < 12) (y : Int32) : F_Mo_learns 1528 (nI v) (nI q) y (rowI J 1529 W, K) = some (rowI J 1529 (lrnW W v q y), K) := by
  unfold F_Mo_learns
  simp only [Option.bind_some, reduceIte, if_true, if_false, Bool.false_eq_true, ck_tt, v_qS, mo_k hm, mw_f hm, mo_r1 hm, mw_gates hm, mw_walkers hm, mw_of0 hm hv8, mw_of1 hm hv8, mw_of2 hm hv8, mw_of3 hm hv8, mw_of4 hm hv8, mw_of5 hm hv8, mw_st0 hm hv8, mw_st1 hm hv8, mw_st2 hm hv8, mw_st3 hm hv8, mw_st4 hm hv8, mw_st5 hm hv8, mw_ofp hm hv8 hq12, mw_ofs hm hv8 hq12, mw_stp hm hv8 hq12, mw_sts hm hv8 hq12]
  have e1 : ∀ z : Int32, upd W (45 + 30 * v + 3) z (45 + 30 * v + 4) = W (45 + 30 * v + 4) := fun z => pk_un (by omega)
  have e2 : ∀ z z' : Int32, upd (upd W (45 + 30 * v + 3) z) (45 + 30 * v + 4) z' 4 = W 4 := fun z z' => by rw [pk_un (by omega), pk_un (by omega)]
  unfold lrnW
  by_cases hy : y = 0
  · simp only [hy, Option.bind_some, reduceIte, if_true, if_false, Bool.false_eq_true, ck_tt, mw_of0 hm hv8, mw_of1 hm hv8, mw_of2 hm hv8, mw_of3 hm hv8, mw_of4 hm hv8, mw_of5 hm hv8, mw_st0 hm hv8, mw_st1 hm hv8, mw_st2 hm hv8, mw_st3 hm hv8, mw_st4 hm hv8, mw_st5 hm hv8, mw_a hm (show (4 : Int32) = nI 4 from rfl) (show 4 < 2038 by omega), mw_ofp hm hv8 hq12, mw_ofs hm hv8 hq12, mw_stp hm hv8 hq12, mw_sts hm hv8 hq12, e1, e2]
  · simp only [hy, Option.bind_some, reduceIte, if_true, if_false, Bool.false_eq_true, ck_tt, mw_of0 hm hv8, mw_of1 hm hv8, mw_of2 hm hv8, mw_of3 hm hv8, mw_of4 hm hv8, mw_of5 hm hv8, mw_st0 hm hv8, mw_st1 hm hv8, mw_st2 hm hv8, mw_st3 hm hv8, mw_st4 hm hv8, mw_st5 hm hv8, mw_a hm (show (4 : Int32) = nI 4 from rfl) (show 4 < 2038 by omega), mw_ofp hm hv8 hq12, mw_ofs hm hv8 hq12, mw_stp hm hv8 hq12, mw_sts hm hv8 hq12, e1, e2]
theorem WR.learn (h : WR a I W g w) (hv : v < w) (hq : q < g) {t y : Int32} (hy : y = if bt t q = true then 1 else 0) (hL : LrnI a v ((1 : Int32) <<< (nI q &&& 31)) t I I') : WR a I' (lrnW W v q y) g w := by
  have h8 := h.w8
  have h12 := h.g12
  obtain ⟨⟨c0, c1, c2, c3, c4, c5⟩, c7, c8, c9, c10, c11, c12, c13⟩ := h.oc hv
  have hday : W 4 = I a 16 := h.2.1.2.2.2.1
  obtain ⟨e1, e2, e3, e4⟩ := id hL
  have f0 : ∀ j, ¬ (45 + 30 * v ≤ j ∧ j < 75 + 30 * v) → lrnW W v q y j = W j := fun j hj => by
    unfold lrnW
    rw [pk_un (by omega), pk_un (by omega), pk_un (by omega)]
  have f1 : ∀ j, j < 30 → j ≠ 3 → j ≠ 4 → j ≠ 6 + q → lrnW W v q y (45 + 30 * v + j) = W (45 + 30 * v + j) := fun j h1 h2 h3 h4 => by
    unfold lrnW
    rw [pk_un (by omega), pk_un (by omega), pk_un (by omega)]
  have f3 : lrnW W v q y (45 + 30 * v + 3) = I' (a + 7) v := by
    unfold lrnW
    rw [pk_un (by omega), pk_un (by omega), pk_us, e1, c3]
  have f4 : lrnW W v q y (45 + 30 * v + 4) = I' (a + 8) v := by
    unfold lrnW
    rw [pk_un (by omega), pk_us, e2, c4]
    refine bt_ext fun j hj => ?_
    by_cases hb : bt t q = true
    · rw [if_pos hb] at hy
      rw [hy, if_neg (by decide)]
      simp only [bt_or hj, bt_and hj, bt_not hj, bt_shl (show q < 32 by omega) hj]
      by_cases e : j = q
      · subst e; rw [hb]; simp
      · rw [decide_eq_false e]; simp
    · rw [if_neg hb] at hy
      rw [hy, if_pos rfl]
      simp only [bt_or hj, bt_and hj, bt_not hj, bt_shl (show q < 32 by omega) hj]
      by_cases e : j = q
      · subst e; simp [hb]
      · rw [decide_eq_false e]; simp
  have f6 : lrnW W v q y (45 + 30 * v + (6 + q)) = I a 16 := by
    unfold lrnW
    rw [pk_us]; exact hday
  refine h.walker hv hL.on f0 ?_
  unfold WC
  rw [f3, f4, f1 0 (by omega) (by omega) (by omega) (by omega), f1 1 (by omega) (by omega) (by omega) (by omega), f1 2 (by omega) (by omega) (by omega) (by omega), f1 5 (by omega) (by omega) (by omega) (by omega), e4 (a + 4) v (by omega) (by omega) (by omega), e4 (a + 5) v (by omega) (by omega) (by omega), e4 (a + 6) v (by omega) (by omega) (by omega), e4 a 12 (by omega) (by omega) (by omega)]
  refine ⟨⟨c0, c1, c2, rfl, rfl, c5⟩, fun j hj => ?_, fun j hj hb => ?_, c9, fun j h1 h2 => ?_, fun j h2 hb => ?_, fun j hj => ?_, c13⟩
  · rw [f1 (18 + j) (by omega) (by omega) (by omega) (by omega), e4 (a + 19 + v) j (by omega) (by omega) (by omega)]; exact c7 j hj
  · rw [e3 j (by omega), bt_shl (by omega) (by omega)]
    by_cases e : j = q
    · subst e; rw [f6, if_pos (decide_eq_true rfl)]
    · rw [f1 (6 + j) (by omega) (by omega) (by omega) (by omega), if_neg (by rw [decide_eq_true_iff]; exact e)]
      refine c8 j hj ?_
      rw [e1, bt_or (by omega), bt_shl (by omega) (by omega), decide_eq_false e, Bool.or_false] at hb
      exact hb
  · rw [e1, bt_or (by omega), bt_shl (by omega) (by omega), c10 j h1 h2, decide_eq_false (by omega)]; rfl
  · rw [e2, bt_or h2, bt_and h2, bt_not h2, bt_and h2, bt_shl (by omega) h2] at hb
    rw [e1, bt_or h2, bt_shl (by omega) h2]
    by_cases e : j = q
    · rw [decide_eq_true e, Bool.or_true]
    · rw [decide_eq_false e] at hb ⊢
      rw [Bool.or_false]
      exact c11 j h2 (by simpa using hb)
  · rw [e4 (a + 19 + v) j (by omega) (by omega) (by omega)]; exact c12 j hj
/-- the answer of one gate comes to one walker -/
theorem r_learn (h : WR a I W g w) (hn : WN N a) (hm : MN K) (hv : v < w) (hq : q < g) (t y : Int32) (hy : y = if bt t q = true then 1 else 0) :
    E2 (F_World_learn a (nI v) ((1 : Int32) <<< (nI q &&& 31)) t (I, N)) (F_Mo_learns 1528 (nI v) (nI q) y (rowI J 1529 W, K)) (fun M M' => ∃ I' W', M = (I', N) ∧ M' = (rowI J 1529 W', K) ∧ LrnI a v ((1 : Int32) <<< (nI q &&& 31)) t I I' ∧ FF a I I' W W' ∧ WR a I' W' g w) := by
  have h8 := h.w8
  have h12 := h.g12
  refine E2.mk (c_learn hn (by omega) _ t I) ?_
  rintro M ⟨I', rfl, hL⟩
  rw [m_learns hm (by omega) (by omega)]
  exact E1.ok ⟨I', _, rfl, rfl, hL, ⟨hL.on.fr (by omega), FW.lrn (by omega) (by omega)⟩, h.learn hv hq hy hL⟩
/-- a set's bits below i -/
def msV (x : Int32) : Nat → Int32
  | 0 => 0
  | i + 1 => msV x i ||| if bt x i = true then (1 : Int32) <<< (nI i &&& 31) else 0
theorem bt_ms (x : Int32) {j : Nat} (hj : j < 32) : ∀ i, i ≤ 32 → bt (msV x i) j = (bt x j && decide (j < i))
  | 0, _ => by show bt 0 j = _; rw [bt_zero hj]; simp
  | i + 1, hi => by
    show bt (_ ||| _) j = _
    rw [bt_or hj, bt_ms x hj i (by omega)]
    by_cases hb : bt x i = true
    · rw [if_pos hb, bt_shl (by omega) hj]
      by_cases e : j = i
      · subst e; rw [hb]; simp
      · rw [decide_eq_false e, Bool.or_false]
        rw [show decide (j < i + 1) = decide (j < i) from decide_eq_decide.mpr (by omega)]
    · rw [if_neg hb, bt_zero hj, Bool.or_false]
      by_cases e : j = i
      · subst e; rw [Bool.not_eq_true] at hb; rw [hb]; rfl
      · rw [show decide (j < i + 1) = decide (j < i) from decide_eq_decide.mpr (by omega)]
theorem ms_all {x : Int32} {n : Nat} (hn : n ≤ 32) (h : ∀ j, n ≤ j → j < 32 → bt x j = false) : msV x n = x := by
  refine bt_ext fun j hj => ?_
  rw [bt_ms x hj n hn]
  by_cases e : j < n
  · rw [decide_eq_true e, Bool.and_true]
  · rw [h j (by omega) hj]; rfl
end LRN
