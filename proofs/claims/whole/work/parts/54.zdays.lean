/-! days; back to what was remembered -/
section DAYS3
variable {a b c d s g w k v q p n L o hh n' L' t r : Nat} {I I' I2 : IM} {W W' : Nat → Int32} {N N' N2 K : NM} {J J' J2 : IM} {M M' : Mem} {P : List lnT} {tr : Nat → Int32} {x y z : Int32}
theorem c_ckD (hx : ((1 : Int32) ≤ x ∧ x ≤ 99) = False) (M : Mem) : F_RR_checkDays x M = some (.inr (1, pNew M 30 0)) := by
  unfold F_RR_checkDays
  by_cases c : x < 1
  · simp only [c, Option.bind_some, reduceIte, if_true, if_false, Bool.false_eq_true, ck_tt]
  · have : (x ≤ 99) = False := eq_false fun q => Eq.mp hx ⟨Int32.not_lt.mp c, q⟩
    simp only [c, this, Option.bind_some, reduceIte, if_true, if_false, Bool.false_eq_true, ck_tt]
theorem c_ckD' {m : Nat} (h1 : 1 ≤ m) (h2 : m ≤ 99) (M : Mem) : F_RR_checkDays (nI m) M = some (.inl ()) := by
  unfold F_RR_checkDays
  simp only [show (nI m < (1 : Int32)) = False from cm_ltF (b := 1) (a := m) (by omega) (by omega), show (nI m ≤ (99 : Int32)) = True from cm_leT (a := 99) (by omega) (by omega), Option.bind_some, reduceIte, if_true, if_false, Bool.false_eq_true, ck_tt]
theorem Ex.clr (h : INVp N I K (rowI J 1529 W) g w p P n L o hh) (f1 : FV 1007 N p I I') (f2 : FW W W') (f3 : F5 (u2 J 1528 0 0) J') (hw : WR 1007 I' W' g w) (x : Int32) : Ex tr N I K (rowI J 1529 W) (.inl (x, (u2 I' 1077 2 0, N))) (x, (rowI (u2 J' 1528 6 0) 1529 W', K)) := by
  obtain ⟨h1, k1, k2⟩ := h.soft (I' := I') (J' := rowI J' 1529 W') (fun c j z1 z2 z3 _ => f1 c j (by omega) z2 z3) (fun c j z1 z2 z3 z4 => by rw [rw_n _ _ z1, rw_n _ _ z1, f3 c z2]; exact u2_n _ _ _ _ (by omega)) (by rw [rw_s, rw_s]; exact f2) (by rw [rw_s]; exact hw)
  obtain ⟨h2, k3, k4⟩ := h1.clear
  rw [u2_rowc (by omega)] at h2 k4
  exact ⟨_, N, _, rfl, ⟨_, _, _, _, _, _, _, _, h2⟩, k1.trans k3, k2.trans k4, Or.inl ⟨x, rfl, rfl, by rw [rw_n _ _ (by omega), u2_n _ _ _ _ (by omega), f3 _ (by omega), u2_s]⟩⟩
theorem op_days (h : INVp N I K (rowI J 1529 W) g w p P n L o hh) (x : Int32) : E2 (F_RR_days 1000 x (I, N)) (F_Mo_days 1528 x (rowI J 1529 W, K)) (Ex (fun c => if c = 1 then 1 else 0) N I K (rowI J 1529 W)) := by
  have hN := h.1
  have hm := h.2.1
  have hw := h.wr
  have hk6 : kS N 1077 = 11 := hN.2.2.2.2.2.2.1.1
  unfold F_RR_days F_Mo_days F_History_clear
  rcases ix2 x (a := 1) (b := 99) (by omega) (by omega) with hx | ⟨m, h1, h99, rfl⟩
  · have hx' : ((1 : Int32) ≤ x ∧ x ≤ 99) = False := hx
    simp only [sp_k hN, Option.bind_some, reduceIte, if_true, if_false, Bool.false_eq_true, ck_tt, mw_s hm, v_qS, mo_k hm, mw_f hm, mo_r1 hm, mw_gates hm, mw_walkers hm, bdX_l, bdX_r, m_thr0, m_thr1 hm, i32_10, i32_00, sp_r0 hN, sp_r1 hN, sp_r2 hN, sp_r3 hN, sp_r4 hN, sp_r5 hN, sp_r6 hN, sp_r7 hN, sp_r8 hN, sp_r9 hN, c_ckD hx', m_in, hx']
    exact E2.ok (Ex.exc h rfl (by decide))
  simp only [sp_k hN, Option.bind_some, reduceIte, if_true, if_false, Bool.false_eq_true, ck_tt, mw_s hm, v_qS, mo_k hm, mw_f hm, mo_r1 hm, mw_gates hm, mw_walkers hm, bdX_l, bdX_r, m_thr0, m_thr1 hm, i32_10, i32_00, sp_r0 hN, sp_r1 hN, sp_r2 hN, sp_r3 hN, sp_r4 hN, sp_r5 hN, sp_r6 hN, sp_r7 hN, sp_r8 hN, sp_r9 hN, c_ckD' h1 h99, m_in, show ((1 : Int32) ≤ nI m) = True from cm_leT (a := m) (b := 1) h1 (by omega), show (nI m ≤ (99 : Int32)) = True from cm_leT (a := 99) (by omega) (by omega), and_self]
  refine E2.bind (P := fun M M' => ∃ I' W', M = (I', N) ∧ M' = (rowI (u2 J 1528 0 0) 1529 W', K) ∧ FF 1007 I I' W W' ∧ WR 1007 I' W' g w) ?_ ?_
  · refine lq2 (fun i s t => ∃ I' W', s = (nI i, (I', N)) ∧ t = (nI i, (rowI (u2 J 1528 0 0) 1529 W', K)) ∧ FF 1007 I I' W W' ∧ WR 1007 I' W' g w) _ m (lim_lt (by omega)) (Nat.zero_le _) ⟨I, W, rfl, rfl, FF.id, hw⟩ ?_ ?_
    · rintro i s t hi ⟨I1, W1, rfl, rfl, hF, h1⟩
      simp only [cm_leF hi (show m < 2 ^ 31 by omega), sp_k hN, Option.bind_some, reduceIte, if_true, if_false, Bool.false_eq_true, ck_tt, mw_s hm, v_qS, mo_k hm, mw_f hm, mo_r1 hm, mw_gates hm, mw_walkers hm, bdX_l, bdX_r, m_thr0, m_thr1 hm, i32_10, i32_00, sp_r0 hN, sp_r1 hN, sp_r2 hN, sp_r3 hN, sp_r4 hN, sp_r5 hN, sp_r6 hN, sp_r7 hN, sp_r8 hN, sp_r9 hN, wa_k hN.wn]
      refine E2.bind (r_day h1 hN.wn hm) ?_
      rintro _ _ ⟨I2, W2, rfl, rfl, hF2, h2⟩
      exact E2.ok ⟨I2, W2, Prod.ext (nI_1 i) rfl, Prod.ext (nI_1 i) rfl, hF.trans hF2, h2⟩
    · rintro s t ⟨I1, W1, rfl, rfl, hF, h1⟩
      simp only [cm_leT (Nat.le_refl m) (show m < 2 ^ 31 by omega), sp_k hN, Option.bind_some, reduceIte, if_true, if_false, Bool.false_eq_true, ck_tt, mw_s hm, v_qS, mo_k hm, mw_f hm, mo_r1 hm, mw_gates hm, mw_walkers hm, bdX_l, bdX_r, m_thr0, m_thr1 hm, i32_10, i32_00, sp_r0 hN, sp_r1 hN, sp_r2 hN, sp_r3 hN, sp_r4 hN, sp_r5 hN, sp_r6 hN, sp_r7 hN, sp_r8 hN, sp_r9 hN]
      exact E2.ok ⟨I1, W1, rfl, rfl, hF, h1⟩
  · rintro _ _ ⟨I1, W1, rfl, rfl, hF, h1⟩
    have e4 : W1 4 = I1 1007 16 := h1.2.1.2.2.2.1
    have e5 : u2 I1 1077 2 0 1007 16 = I1 1007 16 := u2_n _ _ _ _ (by omega)
    simp only [sp_k hN, Option.bind_some, reduceIte, if_true, if_false, Bool.false_eq_true, ck_tt, mw_s hm, v_qS, mo_k hm, mw_f hm, mo_r1 hm, mw_gates hm, mw_walkers hm, bdX_l, bdX_r, m_thr0, m_thr1 hm, i32_10, i32_00, sp_r0 hN, sp_r1 hN, sp_r2 hN, sp_r3 hN, sp_r4 hN, sp_r5 hN, sp_r6 hN, sp_r7 hN, sp_r8 hN, sp_r9 hN, v_qS, wa_k hN.wn, wa_f hN.wn, wa_s hN.wn, wa_r1 hN.wn, wa_r2 hN.wn, wa_r3 hN.wn, wa_r5 hN.wn, wa_r6 hN.wn, wa_r7 hN.wn, wa_r8 hN.wn, wa_r9 hN.wn, wa_r10 hN.wn, wa_r11 hN.wn, hk6, v_sI hk6, mw_a hm (show (4 : Int32) = nI 4 from rfl) (show 4 < 2038 by omega), e4, e5]
    exact E2.ok (Ex.clr h (.ofFr hF.1) hF.2 F5.id h1 _)
theorem mo_live_e (a1 : Int32) (M : Mem) : F_Mo_live 1528 a1 M = (sI M 1528 19 0 (0 : Int32)).bind fun m1 => (F_Mo_in a1 (1 : Int32) (99 : Int32) m1).bind fun v2 => (if v2 = 0 then (some (1 : Int32)) else (some (0 : Int32)) : Option (Int32)).bind fun s4 => (ck (qS m1 1528 = 19)).bind fun h6 => (F_Mo_throwsIf 1528 s4 (1 : Int32) m1).bind fun v5 => if v5.1 = 0 then ((loopN LIM (fun s8 : Int32 × Int32 × Mem => if a1 ≤ s8.2.1 then (some (.inr ((s8.1, s8.2.2)))) else ((moDraw s8.1 s8.2.2).bind fun v => some (.inl (v.1, (s8.2.1 + (1 : Int32)), v.2)))) ((0 : Int32), (0 : Int32), v5.2) : Option (Int32 × Mem)).bind fun s20 => (sI s20.2 1528 19 6 (0 : Int32)).bind fun m21 => some (s20.1, m21)) else (some ((0 : Int32), v5.2)) := by
  unfold F_Mo_live moDraw
  simp only [Option.bind_assoc, Option.bind_some]
theorem op_live (h : INVp N I K (rowI J 1529 W) g w p P n L o hh) (x : Int32) : E2 (F_RR_live 1000 x (I, N)) (F_Mo_live 1528 x (rowI J 1529 W, K)) (Ex (fun c => if c = 1 then 1 else 0) N I K (rowI J 1529 W)) := by
  have hN := h.1
  have hm := h.2.1
  have hw := h.wr
  have hk6 : kS N 1077 = 11 := hN.2.2.2.2.2.2.1.1
  rw [mo_live_e]
  unfold F_RR_live F_History_clear
  rcases ix2 x (a := 1) (b := 99) (by omega) (by omega) with hx | ⟨m, h1, h99, rfl⟩
  · have hx' : ((1 : Int32) ≤ x ∧ x ≤ 99) = False := hx
    simp only [sp_k hN, Option.bind_some, reduceIte, if_true, if_false, Bool.false_eq_true, ck_tt, mw_s hm, v_qS, mo_k hm, mw_f hm, mo_r1 hm, mw_gates hm, mw_walkers hm, bdX_l, bdX_r, m_thr0, m_thr1 hm, i32_10, i32_00, sp_r0 hN, sp_r1 hN, sp_r2 hN, sp_r3 hN, sp_r4 hN, sp_r5 hN, sp_r6 hN, sp_r7 hN, sp_r8 hN, sp_r9 hN, c_ckD hx', m_in, hx']
    exact E2.ok (Ex.exc h rfl (by decide))
  simp only [sp_k hN, Option.bind_some, reduceIte, if_true, if_false, Bool.false_eq_true, ck_tt, mw_s hm, v_qS, mo_k hm, mw_f hm, mo_r1 hm, mw_gates hm, mw_walkers hm, bdX_l, bdX_r, m_thr0, m_thr1 hm, i32_10, i32_00, sp_r0 hN, sp_r1 hN, sp_r2 hN, sp_r3 hN, sp_r4 hN, sp_r5 hN, sp_r6 hN, sp_r7 hN, sp_r8 hN, sp_r9 hN, c_ckD' h1 h99, m_in, show ((1 : Int32) ≤ nI m) = True from cm_leT (a := m) (b := 1) h1 (by omega), show (nI m ≤ (99 : Int32)) = True from cm_leT (a := 99) (by omega) (by omega), and_self]
  refine E2.bind (P := fun u u' => u.1 = u'.1 ∧ ∃ I' W' J', u.2 = (I', N) ∧ u'.2 = (rowI J' 1529 W', K) ∧ (FV 1007 N p I I' ∧ FW W W' ∧ F5 (u2 J 1528 0 0) J') ∧ WR 1007 I' W' g w ∧ LawR N I' p W' P) ?_ ?_
  · refine lq2 (fun i s t => ∃ x I' W' J', s = (x, nI i, (I', N)) ∧ t = (x, nI i, (rowI J' 1529 W', K)) ∧ (FV 1007 N p I I' ∧ FW W W' ∧ F5 (u2 J 1528 0 0) J') ∧ WR 1007 I' W' g w ∧ LawR N I' p W' P) _ m (lim_lt (by omega)) (Nat.zero_le _) ⟨0, I, W, _, rfl, rfl, ⟨FV.id, FW.id, F5.id⟩, hw, h.lw.1⟩ ?_ ?_
    · rintro i s t hi ⟨x, I1, W1, J1, rfl, rfl, ⟨k1, k2, k3⟩, h1, l1⟩
      simp only [cm_leF hi (show m < 2 ^ 31 by omega), sp_k hN, Option.bind_some, reduceIte, if_true, if_false, Bool.false_eq_true, ck_tt, mw_s hm, v_qS, mo_k hm, mw_f hm, mo_r1 hm, mw_gates hm, mw_walkers hm, bdX_l, bdX_r, m_thr0, m_thr1 hm, i32_10, i32_00, sp_r0 hN, sp_r1 hN, sp_r2 hN, sp_r3 hN, sp_r4 hN, sp_r5 hN, sp_r6 hN, sp_r7 hN, sp_r8 hN, sp_r9 hN, wa_k hN.wn]
      refine E2.bind (r_draw h1 hN.wn hm h.2.2.2.1 l1 h.dis x) ?_
      rintro ⟨y, M⟩ ⟨y', M'⟩ ⟨e, I2, W2, J2, rfl, rfl, ⟨f1, f2, f3⟩, h2, l2⟩
      have e : y' = x + y := e
      subst e
      exact E2.ok ⟨x + y, I2, W2, J2, Prod.ext rfl (Prod.ext (nI_1 i) rfl), Prod.ext rfl (Prod.ext (nI_1 i) rfl), ⟨k1.trans f1, k2.trans f2, k3.trans f3⟩, h2, l2⟩
    · rintro s t ⟨x, I1, W1, J1, rfl, rfl, hF, h1, l1⟩
      simp only [cm_leT (Nat.le_refl m) (show m < 2 ^ 31 by omega), sp_k hN, Option.bind_some, reduceIte, if_true, if_false, Bool.false_eq_true, ck_tt, mw_s hm, v_qS, mo_k hm, mw_f hm, mo_r1 hm, mw_gates hm, mw_walkers hm, bdX_l, bdX_r, m_thr0, m_thr1 hm, i32_10, i32_00, sp_r0 hN, sp_r1 hN, sp_r2 hN, sp_r3 hN, sp_r4 hN, sp_r5 hN, sp_r6 hN, sp_r7 hN, sp_r8 hN, sp_r9 hN]
      exact E2.ok ⟨rfl, I1, W1, J1, rfl, rfl, hF, h1, l1⟩
  · rintro ⟨y, M⟩ ⟨y', M'⟩ ⟨e, I1, W1, J1, e1, e2, ⟨f1, f2, f3⟩, h1, l1⟩
    have e : y = y' := e
    have e1 : M = _ := e1
    have e2 : M' = _ := e2
    subst e e1 e2
    simp only [sp_k hN, Option.bind_some, reduceIte, if_true, if_false, Bool.false_eq_true, ck_tt, mw_s hm, v_qS, mo_k hm, mw_f hm, mo_r1 hm, mw_gates hm, mw_walkers hm, bdX_l, bdX_r, m_thr0, m_thr1 hm, i32_10, i32_00, sp_r0 hN, sp_r1 hN, sp_r2 hN, sp_r3 hN, sp_r4 hN, sp_r5 hN, sp_r6 hN, sp_r7 hN, sp_r8 hN, sp_r9 hN, hk6, v_sI hk6]
    exact E2.ok (Ex.clr h f1 f2 f3 h1 _)
theorem c_undo (hs : Shp N) (ho : o < 12) (hc : hh ≤ 12) (h0 : 0 < hh) (e1 : I 1077 1 = nI o) (e2 : I 1077 2 = nI hh) : E1 (F_History_undoLatest 1077 1007 (I, N)) (fun u => ∃ I', u = (1, (I', rN N 1007 19 (kR N (1079 + 33 * ((o + (hh - 1)) % 12)) 19))) ∧ (∀ j k, cpd j k → I' (1007 + j) k = I (1079 + 33 * ((o + (hh - 1)) % 12) + j) k) ∧ (∀ c j, ¬ (1007 ≤ c ∧ c < 1034) → ¬ (c = 1077 ∧ j = 2) → I' c j = I c j) ∧ I' 1077 2 = nI (hh - 1)) := by
  obtain ⟨k0, r0, ⟨k1, n1⟩, r1⟩ := hs.2.2.2.2.2.2.1
  have hm : (o + (hh - 1)) % 12 < 12 := Nat.mod_lt _ (by omega)
  have hd := hs.2.2.2.1.2.2.2 _ hm
  have e3 : nI hh - (1 : Int32) = nI (hh - 1) := by
    rw [← Int32.toInt_inj, show (1 : Int32) = nI 1 from rfl, pk_sub_toInt (by omega) (by omega), nI_toInt (by omega)]; omega
  unfold F_History_undoLatest
  simp only [v_fR k0, v_fI k0, v_sI k0, r0, e1, e2, show (nI hh = (0 : Int32)) = False from cm_eqF (b := 0) (by omega) (by omega) (by omega), e3, u2_s, u2_n I 1077 2 (nI (hh - 1)) (show ¬ (1077 = 1077 ∧ 1 = 2) by omega), nI_add, mod_12 (show o + (hh - 1) < 25 by omega), Option.bind_some, reduceIte, if_true, if_false, Bool.false_eq_true, ck_tt, v_aR k1 n1 (rfl : nI ((o + (hh - 1)) % 12) = _) hm (by omega), r1 _ hm, v_qS, wa_k hs.wn]
  generalize hD : 1079 + 33 * ((o + (hh - 1)) % 12) = D at hd ⊢
  have hD1 : 1079 ≤ D ∧ D + 27 ≤ 1475 := by omega
  refine E1.bind (c_copy hs.wn hd (by omega) _) ?_
  rintro _ ⟨I1, rfl, hf, hr⟩
  have ed : ∀ c, c ≠ 1077 → u2 I 1077 2 (nI (hh - 1)) c = I c := fun c hc => u2_o _ _ _ _ hc
  exact E1.ok ⟨I1, rfl, fun j k hjk => by rw [hf j k hjk, ed _ (by rcases hjk with h | h | h | h | h <;> omega)], fun c j c1 c2 => by rw [hr c c1]; exact u2_n _ _ _ _ (by omega), by rw [hr _ (by omega), u2_s]⟩
theorem m_undo (hm : MN K) (h12 : hh ≤ 12) (h0 : 0 < hh) (e6 : J 1528 6 = nI hh) : E1 (F_Mo_undo 1528 (J, K)) (fun u => ∃ J', u = (1, (J', K)) ∧ (∀ c j, ¬ (c = 1529 ∧ j < 285) → ¬ (c = 1528 ∧ (j = 0 ∨ j = 6)) → J' c j = J c j) ∧ J' 1528 0 = 0 ∧ J' 1528 6 = nI (hh - 1) ∧ ∀ k, k < 285 → J' 1529 k = J 1532 (285 * (hh - 1) + k)) := by
  have e3 : nI hh - (1 : Int32) = nI (hh - 1) := by
    rw [← Int32.toInt_inj, show (1 : Int32) = nI 1 from rfl, pk_sub_toInt (by omega) (by omega), nI_toInt (by omega)]; omega
  have e60 : u2 J 1528 0 0 1528 6 = nI hh := by rw [u2_n _ _ _ _ (by omega)]; exact e6
  unfold F_Mo_undo
  simp only [mo_s hm, mo_f hm, Option.bind_some, reduceIte, if_true, if_false, Bool.false_eq_true, ck_tt, e60, show (nI hh = (0 : Int32)) = False from cm_eqF (b := 0) (by omega) (by omega) (by omega), e3]
  refine lq1 (fun i s => ∃ J', s = (nI i, (J', K)) ∧ (∀ c j, ¬ (c = 1529 ∧ j < 285) → ¬ (c = 1528 ∧ (j = 0 ∨ j = 6)) → J' c j = J c j) ∧ J' 1528 0 = 0 ∧ J' 1528 6 = nI (hh - 1) ∧ ∀ k, k < i → J' 1529 k = J 1532 (285 * (hh - 1) + k)) _ 285 (lim_lt (by omega)) (Nat.zero_le _) ⟨_, rfl, fun c j c1 c2 => by rw [u2_n _ _ _ _ (by omega), u2_n _ _ _ _ (by omega)], by rw [u2_n _ _ _ _ (by omega), u2_s], u2_s _ _ _ _, fun k hk => absurd hk (Nat.not_lt_zero _)⟩ ?_ ?_
  · rintro i s hi ⟨J1, rfl, f1, f2, f3, f4⟩
    have e2 : (285 : Int32) * nI (hh - 1) + nI i = nI (285 * (hh - 1) + i) := by rw [show (285 : Int32) * nI (hh - 1) = nI (285 * (hh - 1)) from pk_mul 285 _, nI_add]
    simp only [show ((285 : Int32) ≤ nI i) = False from cm_leF (b := 285) hi (by omega), Option.bind_some, reduceIte, if_true, if_false, Bool.false_eq_true, ck_tt, mo_r5 hm, mo_r1 hm, mo_f hm, f3, e2, mo_as hm (rfl : nI (285 * (hh - 1) + i) = _) (show 285 * (hh - 1) + i < 3420 by omega), mo_t hm (rfl : nI i = nI i) (show i < 2038 by omega)]
    refine E1.ok ⟨_, Prod.ext (nI_1 i) rfl, fun c j c1 c2 => by rw [u2_n _ _ _ _ (by omega)]; exact f1 c j c1 c2, by rw [u2_n _ _ _ _ (by omega)]; exact f2, by rw [u2_n _ _ _ _ (by omega)]; exact f3, fun k hk => ?_⟩
    by_cases e : k = i
    · subst e; rw [u2_s]; exact f1 _ _ (by omega) (by omega)
    · rw [u2_n _ _ _ _ (by omega)]; exact f4 k (by omega)
  · rintro s ⟨J1, rfl, f1, f2, f3, f4⟩
    simp only [show ((285 : Int32) ≤ nI 285) = True from cm_leT (Nat.le_refl 285) (by omega), Option.bind_some, reduceIte, if_true, if_false, Bool.false_eq_true, ck_tt]
    exact E1.ok ⟨J1, rfl, f1, f2, f3, f4⟩
end DAYS3
