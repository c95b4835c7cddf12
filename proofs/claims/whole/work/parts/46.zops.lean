/-! the ends of calls; what is checked -/
def Ex (tr : Nat → Int32) (N : NM) (I : IM) (K : NM) (J : IM) (u : (Int32 × Mem) ⊕ (Nat × Mem)) (u' : Int32 × Mem) : Prop :=
  ∃ I' N' J', u'.2 = (J', K) ∧ INV2 N' I' K J' ∧ FrC I I' ∧ FrM J J' ∧ ((∃ v, u = .inl (v, (I', N')) ∧ u'.1 = v ∧ J' 1528 0 = 0) ∨ ∃ c, u = .inr (c, (I', N')) ∧ J' 1528 0 = tr c ∧ tr c ≠ 0)
def lf (M : Mem) : Int32 ⊕ (Nat × Mem) → (Int32 × Mem) ⊕ (Nat × Mem)
  | .inl v => .inl (v, M)
  | .inr b => .inr b
def OUT (x : Int32) (n : Nat) : Prop := x < 0 ∨ nI n ≤ x
theorem ix3 (x : Int32) {n : Nat} (hn : n < 2 ^ 31) : OUT x n ∨ ∃ j, j < n ∧ x = nI j := by
  rcases pk_ix x hn with h | h | h
  · exact Or.inl (Or.inl h)
  · exact Or.inl (Or.inr h)
  · exact Or.inr h
theorem OUT.fin {x : Int32} {n : Nat} (h : OUT x n) : ¬ (0 ≤ x ∧ x < nI n) := by
  rintro ⟨h1, h2⟩
  rcases h with h | h
  · exact absurd h1 (Int32.not_le.mpr h)
  · exact absurd h2 (Int32.not_lt.mpr h)
theorem pred_lt {x : Int32} {n : Nat} (hn : n < 2 ^ 30) : (nI n - 1 < x) = (nI n ≤ x) := by
  refine propext ?_
  rw [Int32.lt_iff_toInt_lt, Int32.le_iff_toInt_le, show (1 : Int32) = nI 1 from rfl, pk_sub_toInt hn (by omega), nI_toInt (by omega)]
  omega
theorem nI_lt0 {n : Nat} (h : n < 2 ^ 31) : (nI n < 0) = False := eq_false (Int32.not_lt.mpr (nI_pos' h))
section OPS
variable {a b c d s g w k v q p n L o hh : Nat} {I I' I2 : IM} {W W' : Nat → Int32} {N N' N2 K : NM} {J J' J2 : IM} {M M' : Mem} {P : List lnT} {tr : Nat → Int32}
theorem sp_k (h : Shp N) : kS N 1000 = 18 := h.1.1
theorem sp_r0 (h : Shp N) : fR (I, N) 1000 18 0 = some 1001 := by rw [v_fR h.1.1, h.1.2.1]
theorem sp_r1 (h : Shp N) : fR (I, N) 1000 18 1 = some 1003 := by rw [v_fR h.1.1, h.1.2.2.1]
theorem sp_r2 (h : Shp N) : fR (I, N) 1000 18 2 = some 1007 := by rw [v_fR h.1.1, h.1.2.2.2.1]
theorem sp_r3 (h : Shp N) : fR (I, N) 1000 18 3 = some 1040 := by rw [v_fR h.1.1, h.1.2.2.2.2.1]
theorem sp_r4 (h : Shp N) : fR (I, N) 1000 18 4 = some 1073 := by rw [v_fR h.1.1, h.1.2.2.2.2.2.1]
theorem sp_r5 (h : Shp N) : fR (I, N) 1000 18 5 = some 1074 := by rw [v_fR h.1.1, h.1.2.2.2.2.2.2.1]
theorem sp_r6 (h : Shp N) : fR (I, N) 1000 18 6 = some 1077 := by rw [v_fR h.1.1, h.1.2.2.2.2.2.2.2.1]
theorem sp_r7 (h : Shp N) : fR (I, N) 1000 18 7 = some 1475 := by rw [v_fR h.1.1, h.1.2.2.2.2.2.2.2.2.1]
theorem sp_r8 (h : Shp N) : fR (I, N) 1000 18 8 = some 1485 := by rw [v_fR h.1.1, h.1.2.2.2.2.2.2.2.2.2.1]
theorem sp_r9 (h : Shp N) : fR (I, N) 1000 18 9 = some 1518 := by rw [v_fR h.1.1, h.1.2.2.2.2.2.2.2.2.2.2]
theorem Shp.wn (h : Shp N) : WN N 1007 := h.2.2.2.1.1
theorem Shp.cn (h : Shp N) : CNs N 1475 := h.2.2.2.2.2.2.2.1.1
theorem Shp.cn2 (h : Shp N) : CNs N 1518 := h.2.2.2.2.2.2.2.1.2
theorem Shp.mn (h : Shp N) : MN N := h.2.2.2.2.2.2.2.2.1
theorem INVp.wr (h : INVp N I K (rowI J 1529 W) g w p P n L o hh) : WR 1007 I W g w := by
  have := h.2.2.1; rwa [rw_s] at this
theorem INVp.lw (h : INVp N I K (rowI J 1529 W) g w p P n L o hh) : LW N I p W P := by
  have := h.2.2.2.2.1; rwa [rw_s] at this
theorem INVp.cr (h : INVp N I K (rowI J 1529 W) g w p P n L o hh) : CRl 1475 I W g n := by
  have := h.2.2.2.2.2.1; rwa [rw_s] at this
theorem INVp.dis (h : INVp N I K J g w p P n L o hh) : DIS 1007 N p := h.2.2.2.2.1.2.dis.1
theorem c_ckW (h : WR 1007 I W g w) (hs : Shp N) {x : Int32} (hx : OUT x w) : F_RR_checkWalker 1000 x (I, N) = some (.inr (0, pNew (I, N) 30 0)) := by
  have h8 := h.w8
  unfold F_RR_checkWalker
  simp only [sp_r2 hs, v_qS, wa_k hs.wn, wa_f hs.wn, wa_s hs.wn, wa_r1 hs.wn, wa_r2 hs.wn, wa_r3 hs.wn, wa_r5 hs.wn, wa_r6 hs.wn, wa_r7 hs.wn, wa_r8 hs.wn, wa_r9 hs.wn, wa_r10 hs.wn, wa_r11 hs.wn, Option.bind_some, reduceIte, if_true, if_false, Bool.false_eq_true, ck_tt, h.wa]
  by_cases z : x < 0
  · simp only [z, Option.bind_some, reduceIte, if_true, if_false, Bool.false_eq_true, ck_tt]
  · have : (x < nI w) = False := eq_false fun y => hx.fin ⟨Int32.not_lt.mp z, y⟩
    simp only [z, this, Option.bind_some, reduceIte, if_true, if_false, Bool.false_eq_true, ck_tt]
theorem c_ckW' (h : WR 1007 I W g w) (hs : Shp N) {j : Nat} (hj : j < w) : F_RR_checkWalker 1000 (nI j) (I, N) = some (.inl ()) := by
  have h8 := h.w8
  unfold F_RR_checkWalker
  simp only [sp_r2 hs, v_qS, wa_k hs.wn, wa_f hs.wn, wa_s hs.wn, wa_r1 hs.wn, wa_r2 hs.wn, wa_r3 hs.wn, wa_r5 hs.wn, wa_r6 hs.wn, wa_r7 hs.wn, wa_r8 hs.wn, wa_r9 hs.wn, wa_r10 hs.wn, wa_r11 hs.wn, Option.bind_some, reduceIte, if_true, if_false, Bool.false_eq_true, ck_tt, h.wa, nI_lt0 (show j < 2 ^ 31 by omega), cm_ltT hj (by omega)]
theorem c_ckG (h : WR 1007 I W g w) (hs : Shp N) {x : Int32} (hx : OUT x g) : F_RR_checkGate 1000 x (I, N) = some (.inr (0, pNew (I, N) 30 0)) := by
  have h8 := h.g12
  unfold F_RR_checkGate
  simp only [sp_r2 hs, v_qS, wa_k hs.wn, wa_f hs.wn, wa_s hs.wn, wa_r1 hs.wn, wa_r2 hs.wn, wa_r3 hs.wn, wa_r5 hs.wn, wa_r6 hs.wn, wa_r7 hs.wn, wa_r8 hs.wn, wa_r9 hs.wn, wa_r10 hs.wn, wa_r11 hs.wn, Option.bind_some, reduceIte, if_true, if_false, Bool.false_eq_true, ck_tt, h.ga]
  by_cases z : x < 0
  · simp only [z, Option.bind_some, reduceIte, if_true, if_false, Bool.false_eq_true, ck_tt]
  · have : (x < nI g) = False := eq_false fun y => hx.fin ⟨Int32.not_lt.mp z, y⟩
    simp only [z, this, Option.bind_some, reduceIte, if_true, if_false, Bool.false_eq_true, ck_tt]
theorem c_ckG' (h : WR 1007 I W g w) (hs : Shp N) {j : Nat} (hj : j < g) : F_RR_checkGate 1000 (nI j) (I, N) = some (.inl ()) := by
  have h8 := h.g12
  unfold F_RR_checkGate
  simp only [sp_r2 hs, v_qS, wa_k hs.wn, wa_f hs.wn, wa_s hs.wn, wa_r1 hs.wn, wa_r2 hs.wn, wa_r3 hs.wn, wa_r5 hs.wn, wa_r6 hs.wn, wa_r7 hs.wn, wa_r8 hs.wn, wa_r9 hs.wn, wa_r10 hs.wn, wa_r11 hs.wn, Option.bind_some, reduceIte, if_true, if_false, Bool.false_eq_true, ck_tt, h.ga, nI_lt0 (show j < 2 ^ 31 by omega), cm_ltT hj (by omega)]
/-- in a range -/
theorem m_in (x a b : Int32) (M : Mem) : F_Mo_in x a b M = some (if a ≤ x ∧ x ≤ b then 1 else 0) := by
  unfold F_Mo_in
  by_cases h1 : x < a
  · rw [if_pos h1, if_neg (fun z => absurd z.1 (Int32.not_le.mpr h1))]; rfl
  · rw [if_neg h1]
    by_cases h2 : b < x
    · rw [if_pos h2, if_neg (fun z => absurd z.2 (Int32.not_le.mpr h2))]; rfl
    · rw [if_neg h2, if_pos ⟨Int32.not_lt.mp h1, Int32.not_lt.mp h2⟩]; rfl
theorem in_out {x : Int32} (hx : OUT x n) (hn : n < 2 ^ 30) : ¬ (0 ≤ x ∧ x ≤ nI n - 1) := by
  rintro ⟨h1, h2⟩
  refine hx.fin ⟨h1, ?_⟩
  rw [← Int32.not_le, ← pred_lt hn]
  exact Int32.not_lt.mpr h2
theorem in_in {j : Nat} (hj : j < n) (hn : n < 2 ^ 30) : 0 ≤ nI j ∧ nI j ≤ nI n - 1 := by
  refine ⟨nI_pos' (by omega), ?_⟩
  rw [← Int32.not_lt, pred_lt hn]
  exact Int32.not_le.mpr (nI_lt hj (by omega))
theorem m_noW (h : WR b I W g w) (hm : MN K) {x : Int32} (hx : OUT x w) : F_Mo_noWalker 1528 x (rowI J 1529 W, K) = some 1 := by
  have h8 := h.w8
  unfold F_Mo_noWalker
  simp only [v_qS, mo_k hm, mw_f hm, mo_r1 hm, mw_gates hm, mw_walkers hm, Option.bind_some, reduceIte, if_true, if_false, Bool.false_eq_true, ck_tt, h.wb, m_in]
  rw [if_neg (in_out hx (by omega))]; rfl
theorem m_noW' (h : WR b I W g w) (hm : MN K) {j : Nat} (hj : j < w) : F_Mo_noWalker 1528 (nI j) (rowI J 1529 W, K) = some 0 := by
  have h8 := h.w8
  unfold F_Mo_noWalker
  simp only [v_qS, mo_k hm, mw_f hm, mo_r1 hm, mw_gates hm, mw_walkers hm, Option.bind_some, reduceIte, if_true, if_false, Bool.false_eq_true, ck_tt, h.wb, m_in]
  rw [if_pos (in_in hj (by omega))]; rfl
theorem m_noG (h : WR b I W g w) (hm : MN K) {x : Int32} (hx : OUT x g) : F_Mo_noGate 1528 x (rowI J 1529 W, K) = some 1 := by
  have h8 := h.g12
  unfold F_Mo_noGate
  simp only [v_qS, mo_k hm, mw_f hm, mo_r1 hm, mw_gates hm, mw_walkers hm, Option.bind_some, reduceIte, if_true, if_false, Bool.false_eq_true, ck_tt, h.gb, m_in]
  rw [if_neg (in_out hx (by omega))]; rfl
theorem m_noG' (h : WR b I W g w) (hm : MN K) {j : Nat} (hj : j < g) : F_Mo_noGate 1528 (nI j) (rowI J 1529 W, K) = some 0 := by
  have h8 := h.g12
  unfold F_Mo_noGate
  simp only [v_qS, mo_k hm, mw_f hm, mo_r1 hm, mw_gates hm, mw_walkers hm, Option.bind_some, reduceIte, if_true, if_false, Bool.false_eq_true, ck_tt, h.gb, m_in]
  rw [if_pos (in_in hj (by omega))]; rfl
theorem m_thr0 (c : Int32) (M : Mem) : F_Mo_throwsIf 1528 0 c M = some (0, M) := by
  unfold F_Mo_throwsIf
  rw [if_pos rfl, ck_tt (Or.inl rfl)]
theorem m_thr1 (hm : MN K) (c : Int32) : F_Mo_throwsIf 1528 1 c (rowI J 1529 W, K) = some (1, (rowI (u2 J 1528 0 c) 1529 W, K)) := by
  unfold F_Mo_throwsIf
  rw [if_neg (by decide), mw_s hm]
  rfl
theorem row_thr (c : Int32) : rowI (u2 J 1528 0 c) 1529 W = u2 (rowI J 1529 W) 1528 0 c := (u2_rowc (by omega) _ _).symm
theorem INVp.thrw (h : INVp N I K (rowI J 1529 W) g w p P n L o hh) (x : Int32) : INVp N I K (rowI (u2 J 1528 0 x) 1529 W) g w p P n L o hh ∧ FrM (rowI J 1529 W) (rowI (u2 J 1528 0 x) 1529 W) := by
  rw [row_thr]; exact h.thr x
theorem Ex.exc (h : INVp N I K (rowI J 1529 W) g w p P n L o hh) {c : Nat} {x y z : Int32} (hc : tr c = y) (hy : y ≠ 0) : Ex tr N I K (rowI J 1529 W) (.inr (c, pNew (I, N) 30 0)) (x, (rowI (u2 (u2 J 1528 0 z) 1528 0 y) 1529 W, K)) := by
  obtain ⟨h1, f1⟩ := h.thrw z
  obtain ⟨h2, f2⟩ := h1.thrw y
  obtain ⟨I', N', e, h3, f3⟩ := h2.exc
  refine ⟨I', N', _, rfl, ⟨_, _, _, _, _, _, _, _, h3⟩, f3, f1.trans f2, Or.inr ⟨c, by rw [e], ?_, by rw [hc]; exact hy⟩⟩
  rw [rw_n _ _ (by omega), u2_s, hc]
theorem Ex.val (h : INVp N I K (rowI J 1529 W) g w p P n L o hh) (x : Int32) : Ex tr N I K (rowI J 1529 W) (.inl (x, (I, N))) (x, (rowI (u2 J 1528 0 0) 1529 W, K)) := by
  obtain ⟨h1, f1⟩ := h.thrw 0
  exact ⟨I, N, _, rfl, ⟨_, _, _, _, _, _, _, _, h1⟩, fun _ _ _ => rfl, f1, Or.inl ⟨x, rfl, rfl, by rw [rw_n _ _ (by omega), u2_s]⟩⟩
end OPS
