/-! counts, plans, days -/
theorem ix2 (x : Int32) {a b : Nat} (ha : a < 2 ^ 30) (hb : b < 2 ^ 30) : (nI a ≤ x ∧ x ≤ nI b) = False ∨ ∃ t, a ≤ t ∧ t ≤ b ∧ x = nI t := by
  by_cases c : nI a ≤ x ∧ x ≤ nI b
  · right
    obtain ⟨h1, h2⟩ := c
    rw [Int32.le_iff_toInt_le, nI_toInt (by omega)] at h1 h2
    refine ⟨x.toInt.toNat, by omega, by omega, ?_⟩
    rw [← Int32.toInt_inj, nI_toInt (by omega)]
    omega
  · exact Or.inl (eq_false c)
theorem mm_sub {e m : Nat} (he : e < 2 ^ 30) (hm : m < 2 ^ 30) : mMax 0 (nI e - nI m) = nI (e - m) := by
  unfold mMax
  by_cases c : m < e
  · have : nI e - nI m = nI (e - m) := by
      rw [← Int32.toInt_inj, pk_sub_toInt he hm, nI_toInt (by omega)]; omega
    rw [this, if_pos (show (0 : Int32) < nI (e - m) from nI_lt (a := 0) (by omega) (by omega))]
  · rw [if_neg (by rw [Int32.lt_iff_toInt_lt, pk_sub_toInt he hm, show (0 : Int32).toInt = 0 from by decide]; omega), show e - m = 0 by omega]
    rfl
theorem chM_bd {fv : Nat → Int32 → Int32} {e : Nat} (he : e ≤ 99) : ∀ {P : List lnT} (m : Nat), m + 999 * P.length ≤ 20000 → (∀ ln, ln ∈ P → lnOK ln) → ∃ k, k ≤ 99 ∧ chM fv (nI e) P (nI m) = nI k
  | [], m, h, _ => ⟨e - m, by omega, mm_sub (by omega) (by have : m ≤ 20000 := by simpa using h
                                                           omega)⟩
  | ln :: P, m, h, hl => by
    have h : m + 999 * (P.length + 1) ≤ 20000 := h
    obtain ⟨z, hz, ez⟩ := (hl ln List.mem_cons_self).2.2
    have hl' : ∀ ln, ln ∈ P → lnOK ln := fun x hx => hl x (List.mem_cons_of_mem _ hx)
    rw [chM_cons]
    by_cases c : hld fv ln.2.2 = true
    · rw [if_pos c]
      by_cases c2 : ln.1 = true
      · rw [if_pos c2, ez, nI_add]
        exact chM_bd he _ (by omega) hl'
      · rw [if_neg c2]; exact ⟨0, by omega, rfl⟩
    · rw [if_neg c]
      exact chM_bd he _ (by omega) hl'
section CALL4
variable {a b c d s g w k v q p n L o hh n' L' t : Nat} {I I' I2 : IM} {W W' : Nat → Int32} {N N' N2 K : NM} {J J' J2 : IM} {M M' : Mem} {P : List lnT} {tr : Nat → Int32} {x y z : Int32}
theorem chV_bd (h : WR a I W g w) (hv : v < w) (hl : LawR N I p W P) (q : Nat) : ∃ k, k ≤ 99 ∧ chV a I v q P = nI k := by
  obtain ⟨m, hm, e⟩ := (h.oc hv).2.2.2.2.2.2.2
  have := hl.2.1
  unfold chV
  rw [e]
  exact chM_bd hm 0 (by omega) hl.2.2.1
theorem op_count (h : INVp N I K (rowI J 1529 W) g w p P n L o hh) (x : Int32) : E2 (F_RR_count 1000 x (I, N)) (F_Mo_count 1528 x (rowI J 1529 W, K)) (fun u u' => Ex tr N I K (rowI J 1529 W) (.inl (u, (I, N))) u') := by
  have hN := h.1
  have hm := h.2.1
  have hw := h.wr
  have h8 := hw.w8
  have h12 := hw.g12
  have hc := h.cr
  obtain ⟨x0, x1, x2, x4, x5, x6, x7, x8⟩ := hw.2.1
  have hp := h.2.2.2.1
  have hlk : kS N p = 12 := h.lw.1.1.1.1
  have hr := h.2.2.2.2.2.2.2.2.1
  have r6 : J 1528 6 = nI hh := by have := hr.2.1.2.2; rwa [rw_n _ _ (by omega)] at this
  unfold F_RR_count F_Mo_count
  rcases ix3 x (n := 13) (by omega) with hx | ⟨j, hj, rfl⟩
  · have z0 : (x = 0) = False := out_ne (j := 0) hx (by omega) (by omega)
    have z1 : (x = 1) = False := out_ne (j := 1) hx (by omega) (by omega)
    have z2 : (x = 2) = False := out_ne (j := 2) hx (by omega) (by omega)
    have z3 : (x = 3) = False := out_ne (j := 3) hx (by omega) (by omega)
    have z4 : (x = 4) = False := out_ne (j := 4) hx (by omega) (by omega)
    have z5 : (x = 5) = False := out_ne (j := 5) hx (by omega) (by omega)
    have z6 : (x = 6) = False := out_ne (j := 6) hx (by omega) (by omega)
    have z7 : (x = 7) = False := out_ne (j := 7) hx (by omega) (by omega)
    have z8 : (x = 8) = False := out_ne (j := 8) hx (by omega) (by omega)
    have z9 : (x = 9) = False := out_ne (j := 9) hx (by omega) (by omega)
    have z10 : (x = 10) = False := out_ne (j := 10) hx (by omega) (by omega)
    have z11 : (x = 11) = False := out_ne (j := 11) hx (by omega) (by omega)
    have z12 : (x = 12) = False := out_ne (j := 12) hx (by omega) (by omega)
    have z13 : ((0 : Int32) ≤ x ∧ x ≤ 7) = False := eq_false fun c => in_out (n := 13) hx (by omega) ⟨c.1, Int32.le_trans c.2 (by decide)⟩
    simp only [sp_k hN, Option.bind_some, reduceIte, if_true, if_false, Bool.false_eq_true, ck_tt, mw_s hm, v_qS, mo_k hm, mw_f hm, mo_r1 hm, mw_gates hm, mw_walkers hm, bdX_l, bdX_r, m_thr0, m_thr1 hm, i32_10, i32_00, sp_r0 hN, sp_r1 hN, sp_r2 hN, sp_r3 hN, sp_r4 hN, sp_r5 hN, sp_r6 hN, sp_r7 hN, sp_r8 hN, sp_r9 hN, m_in, z0, z1, z2, z3, z4, z5, z6, z7, z8, z9, z10, z11, z12, z13]
    exact E2.ok (Ex.val h _)
  have hj : (j = 0 ∨ j = 1 ∨ j = 2 ∨ j = 3 ∨ j = 4 ∨ j = 5 ∨ j = 6) ∨ j = 7 ∨ j = 8 ∨ j = 9 ∨ j = 10 ∨ j = 11 ∨ j = 12 := by omega
  rcases hj with (rfl | rfl | rfl | rfl | rfl | rfl | rfl) | rfl | rfl | rfl | rfl | rfl | rfl
  · rw [show nI 0 = (0 : Int32) from rfl]
    simp (decide := true) only [sp_k hN, Option.bind_some, reduceIte, if_true, if_false, Bool.false_eq_true, ck_tt, mw_s hm, v_qS, mo_k hm, mw_f hm, mo_r1 hm, mw_gates hm, mw_walkers hm, bdX_l, bdX_r, m_thr0, m_thr1 hm, i32_10, i32_00, sp_r0 hN, sp_r1 hN, sp_r2 hN, sp_r3 hN, sp_r4 hN, sp_r5 hN, sp_r6 hN, sp_r7 hN, sp_r8 hN, sp_r9 hN, m_in, v_qS, wa_k hN.wn, wa_f hN.wn, wa_s hN.wn, wa_r1 hN.wn, wa_r2 hN.wn, wa_r3 hN.wn, wa_r5 hN.wn, wa_r6 hN.wn, wa_r7 hN.wn, wa_r8 hN.wn, wa_r9 hN.wn, wa_r10 hN.wn, wa_r11 hN.wn, mw_a hm (show (0 : Int32) = nI 0 from rfl) (show 0 < 2038 by omega), x0.1, x0.2]
    exact E2.ok (Ex.val h _)
  · rw [show nI 1 = (1 : Int32) from rfl]
    simp (decide := true) only [sp_k hN, Option.bind_some, reduceIte, if_true, if_false, Bool.false_eq_true, ck_tt, mw_s hm, v_qS, mo_k hm, mw_f hm, mo_r1 hm, mw_gates hm, mw_walkers hm, bdX_l, bdX_r, m_thr0, m_thr1 hm, i32_10, i32_00, sp_r0 hN, sp_r1 hN, sp_r2 hN, sp_r3 hN, sp_r4 hN, sp_r5 hN, sp_r6 hN, sp_r7 hN, sp_r8 hN, sp_r9 hN, m_in, v_qS, wa_k hN.wn, wa_f hN.wn, wa_s hN.wn, wa_r1 hN.wn, wa_r2 hN.wn, wa_r3 hN.wn, wa_r5 hN.wn, wa_r6 hN.wn, wa_r7 hN.wn, wa_r8 hN.wn, wa_r9 hN.wn, wa_r10 hN.wn, wa_r11 hN.wn, mw_a hm (show (1 : Int32) = nI 1 from rfl) (show 1 < 2038 by omega), x1.1, x1.2]
    exact E2.ok (Ex.val h _)
  · rw [show nI 2 = (2 : Int32) from rfl]
    simp (decide := true) only [sp_k hN, Option.bind_some, reduceIte, if_true, if_false, Bool.false_eq_true, ck_tt, mw_s hm, v_qS, mo_k hm, mw_f hm, mo_r1 hm, mw_gates hm, mw_walkers hm, bdX_l, bdX_r, m_thr0, m_thr1 hm, i32_10, i32_00, sp_r0 hN, sp_r1 hN, sp_r2 hN, sp_r3 hN, sp_r4 hN, sp_r5 hN, sp_r6 hN, sp_r7 hN, sp_r8 hN, sp_r9 hN, m_in, v_qS, wa_k hN.wn, wa_f hN.wn, wa_s hN.wn, wa_r1 hN.wn, wa_r2 hN.wn, wa_r3 hN.wn, wa_r5 hN.wn, wa_r6 hN.wn, wa_r7 hN.wn, wa_r8 hN.wn, wa_r9 hN.wn, wa_r10 hN.wn, wa_r11 hN.wn, mw_a hm (show (2 : Int32) = nI 2 from rfl) (show 2 < 2038 by omega), x2]
    exact E2.ok (Ex.val h _)
  · rw [show nI 3 = (3 : Int32) from rfl]
    simp (decide := true) only [sp_k hN, Option.bind_some, reduceIte, if_true, if_false, Bool.false_eq_true, ck_tt, mw_s hm, v_qS, mo_k hm, mw_f hm, mo_r1 hm, mw_gates hm, mw_walkers hm, bdX_l, bdX_r, m_thr0, m_thr1 hm, i32_10, i32_00, sp_r0 hN, sp_r1 hN, sp_r2 hN, sp_r3 hN, sp_r4 hN, sp_r5 hN, sp_r6 hN, sp_r7 hN, sp_r8 hN, sp_r9 hN, m_in, v_fR (wa_k hN.wn), hp, v_fI hlk, mw_a hm (show (3 : Int32) = nI 3 from rfl) (show 3 < 2038 by omega), mw_a hm (show (364 : Int32) = nI 364 from rfl) (show 364 < 2038 by omega)]
    rcases h.lw.1.2.2.2.2 with ⟨l1, l2, l3⟩ | ⟨l1, l2, l3⟩
    · simp only [l1, l2, l3, Option.bind_some, reduceIte, if_true, if_false, Bool.false_eq_true, ck_tt]
      exact E2.ok (Ex.val h _)
    · simp only [l1, l3, i32_01, Option.bind_some, reduceIte, if_true, if_false, Bool.false_eq_true, ck_tt]
      exact E2.ok (Ex.val h _)
  · rw [show nI 4 = (4 : Int32) from rfl]
    simp (decide := true) only [sp_k hN, Option.bind_some, reduceIte, if_true, if_false, Bool.false_eq_true, ck_tt, mw_s hm, v_qS, mo_k hm, mw_f hm, mo_r1 hm, mw_gates hm, mw_walkers hm, bdX_l, bdX_r, m_thr0, m_thr1 hm, i32_10, i32_00, sp_r0 hN, sp_r1 hN, sp_r2 hN, sp_r3 hN, sp_r4 hN, sp_r5 hN, sp_r6 hN, sp_r7 hN, sp_r8 hN, sp_r9 hN, m_in, v_qS, wa_k hN.wn, wa_f hN.wn, wa_s hN.wn, wa_r1 hN.wn, wa_r2 hN.wn, wa_r3 hN.wn, wa_r5 hN.wn, wa_r6 hN.wn, wa_r7 hN.wn, wa_r8 hN.wn, wa_r9 hN.wn, wa_r10 hN.wn, wa_r11 hN.wn, mw_a hm (show (4 : Int32) = nI 4 from rfl) (show 4 < 2038 by omega), x4]
    exact E2.ok (Ex.val h _)
  · rw [show nI 5 = (5 : Int32) from rfl]
    simp (decide := true) only [sp_k hN, Option.bind_some, reduceIte, if_true, if_false, Bool.false_eq_true, ck_tt, mw_s hm, v_qS, mo_k hm, mw_f hm, mo_r1 hm, mw_gates hm, mw_walkers hm, bdX_l, bdX_r, m_thr0, m_thr1 hm, i32_10, i32_00, sp_r0 hN, sp_r1 hN, sp_r2 hN, sp_r3 hN, sp_r4 hN, sp_r5 hN, sp_r6 hN, sp_r7 hN, sp_r8 hN, sp_r9 hN, m_in, v_qS, wa_k hN.wn, wa_f hN.wn, wa_s hN.wn, wa_r1 hN.wn, wa_r2 hN.wn, wa_r3 hN.wn, wa_r5 hN.wn, wa_r6 hN.wn, wa_r7 hN.wn, wa_r8 hN.wn, wa_r9 hN.wn, wa_r10 hN.wn, wa_r11 hN.wn, mw_a hm (show (5 : Int32) = nI 5 from rfl) (show 5 < 2038 by omega), x5]
    exact E2.ok (Ex.val h _)
  · rw [show nI 6 = (6 : Int32) from rfl]
    simp (decide := true) only [sp_k hN, Option.bind_some, reduceIte, if_true, if_false, Bool.false_eq_true, ck_tt, mw_s hm, v_qS, mo_k hm, mw_f hm, mo_r1 hm, mw_gates hm, mw_walkers hm, bdX_l, bdX_r, m_thr0, m_thr1 hm, i32_10, i32_00, sp_r0 hN, sp_r1 hN, sp_r2 hN, sp_r3 hN, sp_r4 hN, sp_r5 hN, sp_r6 hN, sp_r7 hN, sp_r8 hN, sp_r9 hN, m_in, v_qS, wa_k hN.wn, wa_f hN.wn, wa_s hN.wn, wa_r1 hN.wn, wa_r2 hN.wn, wa_r3 hN.wn, wa_r5 hN.wn, wa_r6 hN.wn, wa_r7 hN.wn, wa_r8 hN.wn, wa_r9 hN.wn, wa_r10 hN.wn, wa_r11 hN.wn, mw_a hm (show (6 : Int32) = nI 6 from rfl) (show 6 < 2038 by omega), x6]
    exact E2.ok (Ex.val h _)
  · rw [show nI 7 = (7 : Int32) from rfl]
    simp (decide := true) only [sp_k hN, Option.bind_some, reduceIte, if_true, if_false, Bool.false_eq_true, ck_tt, mw_s hm, v_qS, mo_k hm, mw_f hm, mo_r1 hm, mw_gates hm, mw_walkers hm, bdX_l, bdX_r, m_thr0, m_thr1 hm, i32_10, i32_00, sp_r0 hN, sp_r1 hN, sp_r2 hN, sp_r3 hN, sp_r4 hN, sp_r5 hN, sp_r6 hN, sp_r7 hN, sp_r8 hN, sp_r9 hN, m_in, v_qS, wa_k hN.wn, wa_f hN.wn, wa_s hN.wn, wa_r1 hN.wn, wa_r2 hN.wn, wa_r3 hN.wn, wa_r5 hN.wn, wa_r6 hN.wn, wa_r7 hN.wn, wa_r8 hN.wn, wa_r9 hN.wn, wa_r10 hN.wn, wa_r11 hN.wn, mw_a hm (show (7 : Int32) = nI 7 from rfl) (show 7 < 2038 by omega), x7]
    exact E2.ok (Ex.val h _)
  · rw [show nI 8 = (8 : Int32) from rfl]
    simp (decide := true) only [sp_k hN, Option.bind_some, reduceIte, if_true, if_false, Bool.false_eq_true, ck_tt, mw_s hm, v_qS, mo_k hm, mw_f hm, mo_r1 hm, mw_gates hm, mw_walkers hm, bdX_l, bdX_r, m_thr0, m_thr1 hm, i32_10, i32_00, sp_r0 hN, sp_r1 hN, sp_r2 hN, sp_r3 hN, sp_r4 hN, sp_r5 hN, sp_r6 hN, sp_r7 hN, sp_r8 hN, sp_r9 hN, wa_k hN.wn, c_coins hw hN.wn]
    rw [su_loop (F := fun i => I (1007 + 5) i) (n := w) (r := fun x => (x, (rowI (u2 J 1528 0 0) 1529 W, K))) 0 (by omega) ?_ ?_, Int32.zero_add]
    · exact E2.ok (Ex.val h _)
    · intro i y hi
      have hi8 : i < 8 := by omega
      simp only [sp_k hN, Option.bind_some, reduceIte, if_true, if_false, Bool.false_eq_true, ck_tt, mw_s hm, v_qS, mo_k hm, mw_f hm, mo_r1 hm, mw_gates hm, mw_walkers hm, bdX_l, bdX_r, m_thr0, m_thr1 hm, i32_10, i32_00, sp_r0 hN, sp_r1 hN, sp_r2 hN, sp_r3 hN, sp_r4 hN, sp_r5 hN, sp_r6 hN, sp_r7 hN, sp_r8 hN, sp_r9 hN, mw_of0 hm hi8, mw_of1 hm hi8, mw_of2 hm hi8, mw_of3 hm hi8, mw_of4 hm hi8, mw_of5 hm hi8, mw_st0 hm hi8, mw_st1 hm hi8, mw_st2 hm hi8, mw_st3 hm hi8, mw_st4 hm hi8, mw_st5 hm hi8, hw.wb, cm_leF hi (show w < 2 ^ 31 by omega), (hw.oc hi).1.2.1]
    · intro y
      simp only [sp_k hN, Option.bind_some, reduceIte, if_true, if_false, Bool.false_eq_true, ck_tt, mw_s hm, v_qS, mo_k hm, mw_f hm, mo_r1 hm, mw_gates hm, mw_walkers hm, bdX_l, bdX_r, m_thr0, m_thr1 hm, i32_10, i32_00, sp_r0 hN, sp_r1 hN, sp_r2 hN, sp_r3 hN, sp_r4 hN, sp_r5 hN, sp_r6 hN, sp_r7 hN, sp_r8 hN, sp_r9 hN, hw.wb, cm_leT (Nat.le_refl w) (show w < 2 ^ 31 by omega)]
  · rw [show nI 9 = (9 : Int32) from rfl]
    simp (decide := true) only [sp_k hN, Option.bind_some, reduceIte, if_true, if_false, Bool.false_eq_true, ck_tt, mw_s hm, v_qS, mo_k hm, mw_f hm, mo_r1 hm, mw_gates hm, mw_walkers hm, bdX_l, bdX_r, m_thr0, m_thr1 hm, i32_10, i32_00, sp_r0 hN, sp_r1 hN, sp_r2 hN, sp_r3 hN, sp_r4 hN, sp_r5 hN, sp_r6 hN, sp_r7 hN, sp_r8 hN, sp_r9 hN, m_in, v_fI hN.cn.1.1, hc.2.1, mw_a hm (show (285 : Int32) = nI 285 from rfl) (show 285 < 2038 by omega), hc.2.2.1]
    exact E2.ok (Ex.val h _)
  · rw [show nI 10 = (10 : Int32) from rfl]
    have e6 : u2 J 1528 0 0 1528 6 = nI hh := by rw [u2_n _ _ _ _ (by omega)]; exact r6
    simp (decide := true) only [sp_k hN, Option.bind_some, reduceIte, if_true, if_false, Bool.false_eq_true, ck_tt, mw_s hm, v_qS, mo_k hm, mw_f hm, mo_r1 hm, mw_gates hm, mw_walkers hm, bdX_l, bdX_r, m_thr0, m_thr1 hm, i32_10, i32_00, sp_r0 hN, sp_r1 hN, sp_r2 hN, sp_r3 hN, sp_r4 hN, sp_r5 hN, sp_r6 hN, sp_r7 hN, sp_r8 hN, sp_r9 hN, m_in, v_fI hN.2.2.2.2.2.2.1.1, hr.2.1.2.1, e6]
    exact E2.ok (Ex.val h _)
  · rw [show nI 11 = (11 : Int32) from rfl]
    simp (decide := true) only [sp_k hN, Option.bind_some, reduceIte, if_true, if_false, Bool.false_eq_true, ck_tt, mw_s hm, v_qS, mo_k hm, mw_f hm, mo_r1 hm, mw_gates hm, mw_walkers hm, bdX_l, bdX_r, m_thr0, m_thr1 hm, i32_10, i32_00, sp_r0 hN, sp_r1 hN, sp_r2 hN, sp_r3 hN, sp_r4 hN, sp_r5 hN, sp_r6 hN, sp_r7 hN, sp_r8 hN, sp_r9 hN, v_qS, wa_k hN.wn, wa_f hN.wn, wa_s hN.wn, wa_r1 hN.wn, wa_r2 hN.wn, wa_r3 hN.wn, wa_r5 hN.wn, wa_r6 hN.wn, wa_r7 hN.wn, wa_r8 hN.wn, wa_r9 hN.wn, wa_r10 hN.wn, wa_r11 hN.wn, hw.ga, c_stand hw hN.wn]
    rw [su_loop (F := fun i => if I (1007 + 4) i = nI g then 1 else 0) (n := w) (r := fun x => (x, (rowI (u2 J 1528 0 0) 1529 W, K))) 0 (by omega) ?_ ?_, Int32.zero_add]
    · exact E2.ok (Ex.val h _)
    · intro i y hi
      have hi8 : i < 8 := by omega
      simp only [sp_k hN, Option.bind_some, reduceIte, if_true, if_false, Bool.false_eq_true, ck_tt, mw_s hm, v_qS, mo_k hm, mw_f hm, mo_r1 hm, mw_gates hm, mw_walkers hm, bdX_l, bdX_r, m_thr0, m_thr1 hm, i32_10, i32_00, sp_r0 hN, sp_r1 hN, sp_r2 hN, sp_r3 hN, sp_r4 hN, sp_r5 hN, sp_r6 hN, sp_r7 hN, sp_r8 hN, sp_r9 hN, mw_of0 hm hi8, mw_of1 hm hi8, mw_of2 hm hi8, mw_of3 hm hi8, mw_of4 hm hi8, mw_of5 hm hi8, mw_st0 hm hi8, mw_st1 hm hi8, mw_st2 hm hi8, mw_st3 hm hi8, mw_st4 hm hi8, mw_st5 hm hi8, hw.wb, hw.gb, cm_leF hi (show w < 2 ^ 31 by omega), (hw.oc hi).1.1]
      by_cases e : I (1007 + 4) i = nI g
      · simp only [e, Option.bind_some, reduceIte, if_true, if_false, Bool.false_eq_true, ck_tt]
      · simp only [e, Option.bind_some, reduceIte, if_true, if_false, Bool.false_eq_true, ck_tt]
    · intro y
      simp only [sp_k hN, Option.bind_some, reduceIte, if_true, if_false, Bool.false_eq_true, ck_tt, mw_s hm, v_qS, mo_k hm, mw_f hm, mo_r1 hm, mw_gates hm, mw_walkers hm, bdX_l, bdX_r, m_thr0, m_thr1 hm, i32_10, i32_00, sp_r0 hN, sp_r1 hN, sp_r2 hN, sp_r3 hN, sp_r4 hN, sp_r5 hN, sp_r6 hN, sp_r7 hN, sp_r8 hN, sp_r9 hN, hw.wb, cm_leT (Nat.le_refl w) (show w < 2 ^ 31 by omega)]
  · rw [show nI 12 = (12 : Int32) from rfl]
    simp (decide := true) only [sp_k hN, Option.bind_some, reduceIte, if_true, if_false, Bool.false_eq_true, ck_tt, mw_s hm, v_qS, mo_k hm, mw_f hm, mo_r1 hm, mw_gates hm, mw_walkers hm, bdX_l, bdX_r, m_thr0, m_thr1 hm, i32_10, i32_00, sp_r0 hN, sp_r1 hN, sp_r2 hN, sp_r3 hN, sp_r4 hN, sp_r5 hN, sp_r6 hN, sp_r7 hN, sp_r8 hN, sp_r9 hN, wa_k hN.wn, c_answers hw hN.wn]
    rw [su_loop (F := fun i => pcI (I (1007 + 7) i)) (n := w) (r := fun x => (x, (rowI (u2 J 1528 0 0) 1529 W, K))) 0 (by omega) ?_ ?_, Int32.zero_add]
    · exact E2.ok (Ex.val h _)
    · intro i y hi
      have hi8 : i < 8 := by omega
      simp only [sp_k hN, Option.bind_some, reduceIte, if_true, if_false, Bool.false_eq_true, ck_tt, mw_s hm, v_qS, mo_k hm, mw_f hm, mo_r1 hm, mw_gates hm, mw_walkers hm, bdX_l, bdX_r, m_thr0, m_thr1 hm, i32_10, i32_00, sp_r0 hN, sp_r1 hN, sp_r2 hN, sp_r3 hN, sp_r4 hN, sp_r5 hN, sp_r6 hN, sp_r7 hN, sp_r8 hN, sp_r9 hN, mw_of0 hm hi8, mw_of1 hm hi8, mw_of2 hm hi8, mw_of3 hm hi8, mw_of4 hm hi8, mw_of5 hm hi8, mw_st0 hm hi8, mw_st1 hm hi8, mw_st2 hm hi8, mw_st3 hm hi8, mw_st4 hm hi8, mw_st5 hm hi8, hw.wb, cm_leF hi (show w < 2 ^ 31 by omega), (hw.oc hi).1.2.2.2.1, jbc]
    · intro y
      simp only [sp_k hN, Option.bind_some, reduceIte, if_true, if_false, Bool.false_eq_true, ck_tt, mw_s hm, v_qS, mo_k hm, mw_f hm, mo_r1 hm, mw_gates hm, mw_walkers hm, bdX_l, bdX_r, m_thr0, m_thr1 hm, i32_10, i32_00, sp_r0 hN, sp_r1 hN, sp_r2 hN, sp_r3 hN, sp_r4 hN, sp_r5 hN, sp_r6 hN, sp_r7 hN, sp_r8 hN, sp_r9 hN, hw.wb, cm_leT (Nat.le_refl w) (show w < 2 ^ 31 by omega)]
theorem op_bring (h : INVp N I K (rowI J 1529 W) g w p P n L o hh) (x : Int32) : E2 (F_RR_bring 1000 x (I, N)) (F_Mo_bring 1528 x (rowI J 1529 W, K)) (fun u u' => Ex tr N I K (rowI J 1529 W) (.inl (u, (I, N))) u') := by
  have hN := h.1
  have hm := h.2.1
  unfold F_RR_bring
  simp only [sp_k hN, Option.bind_some, reduceIte, if_true, if_false, Bool.false_eq_true, ck_tt, mw_s hm, v_qS, mo_k hm, mw_f hm, mo_r1 hm, mw_gates hm, mw_walkers hm, bdX_l, bdX_r, m_thr0, m_thr1 hm, i32_10, i32_00, sp_r0 hN, sp_r1 hN, sp_r2 hN, sp_r3 hN, sp_r4 hN, sp_r5 hN, sp_r6 hN, sp_r7 hN, sp_r8 hN, sp_r9 hN]
  refine E2.bindL (r_bring h.wr hN.wn hm x) ?_
  rintro u ⟨u', M'⟩ ⟨e, e'⟩
  have e : u = u' := e
  have e' : M' = _ := e'
  subst e e'
  exact E1.ok (Ex.val h _)
theorem mo_apart_e (a1 : Int32) (M : Mem) : F_Mo_apart 1528 a1 M = (sI M 1528 19 0 (0 : Int32)).bind fun m1 => (ck (qS m1 1528 = 19)).bind fun h3 => (F_Mo_noGate 1528 a1 m1).bind fun v2 => (F_Mo_throwsIf 1528 v2 (1 : Int32) m1).bind fun v4 => if v4.1 = 0 then (moApart a1 v4.2) else (some ((0 : Int32), v4.2)) := rfl
theorem mo_monday_e (a1 : Int32) (M : Mem) : F_Mo_monday 1528 a1 M = (sI M 1528 19 0 (0 : Int32)).bind fun m1 => (ck (qS m1 1528 = 19)).bind fun h3 => (F_Mo_gates 1528 m1).bind fun v2 => (F_Mo_in a1 (0 : Int32) v2 m1).bind fun v4 => (if v4 = 0 then (some (1 : Int32)) else (some (0 : Int32)) : Option (Int32)).bind fun s6 => (F_Mo_throwsIf 1528 s6 (1 : Int32) m1).bind fun v7 => if v7.1 = 0 then (moMon a1 v7.2) else (some ((0 : Int32), v7.2)) := rfl
theorem op_apart (h : INVp N I K (rowI J 1529 W) g w p P n L o hh) (x : Int32) : E2 (F_RR_apart 1000 x (I, N)) (F_Mo_apart 1528 x (rowI J 1529 W, K)) (fun u u' => Ex tr1 N I K (rowI J 1529 W) (lf (I, N) u) u') := by
  have hN := h.1
  have hm := h.2.1
  have hw := h.wr
  have h12 := hw.g12
  rw [mo_apart_e]
  unfold F_RR_apart
  rcases ix3 x (n := g) (by omega) with hx | ⟨q, hq, rfl⟩
  · simp only [sp_k hN, Option.bind_some, reduceIte, if_true, if_false, Bool.false_eq_true, ck_tt, mw_s hm, v_qS, mo_k hm, mw_f hm, mo_r1 hm, mw_gates hm, mw_walkers hm, bdX_l, bdX_r, m_thr0, m_thr1 hm, i32_10, i32_00, sp_r0 hN, sp_r1 hN, sp_r2 hN, sp_r3 hN, sp_r4 hN, sp_r5 hN, sp_r6 hN, sp_r7 hN, sp_r8 hN, sp_r9 hN, c_ckG hw hN hx, m_noG hw hm hx]
    exact E2.ok (Ex.exc h rfl (by decide))
  simp only [sp_k hN, Option.bind_some, reduceIte, if_true, if_false, Bool.false_eq_true, ck_tt, mw_s hm, v_qS, mo_k hm, mw_f hm, mo_r1 hm, mw_gates hm, mw_walkers hm, bdX_l, bdX_r, m_thr0, m_thr1 hm, i32_10, i32_00, sp_r0 hN, sp_r1 hN, sp_r2 hN, sp_r3 hN, sp_r4 hN, sp_r5 hN, sp_r6 hN, sp_r7 hN, sp_r8 hN, sp_r9 hN, c_ckG' hw hN hq, m_noG' hw hm hq]
  refine E2.bindL (r_apart hw hN.wn hm hq) ?_
  rintro u ⟨u', M'⟩ ⟨e, e'⟩
  have e : u = u' := e
  have e' : M' = _ := e'
  subst e e'
  exact E1.ok (Ex.val h _)
theorem op_monday (h : INVp N I K (rowI J 1529 W) g w p P n L o hh) (x : Int32) : E2 (F_RR_monday 1000 x (I, N)) (F_Mo_monday 1528 x (rowI J 1529 W, K)) (fun u u' => Ex (fun c => if c = 1 then 1 else 0) N I K (rowI J 1529 W) (lf (I, N) u) u') := by
  have hN := h.1
  have hm := h.2.1
  have hw := h.wr
  have h12 := hw.g12
  rw [mo_monday_e]
  unfold F_RR_monday
  rcases ix2 x (a := 0) (b := g) (by omega) (by omega) with hx | ⟨q, -, hq, rfl⟩
  · have hx' : ((0 : Int32) ≤ x ∧ x ≤ nI g) = False := hx
    simp only [sp_k hN, Option.bind_some, reduceIte, if_true, if_false, Bool.false_eq_true, ck_tt, mw_s hm, v_qS, mo_k hm, mw_f hm, mo_r1 hm, mw_gates hm, mw_walkers hm, bdX_l, bdX_r, m_thr0, m_thr1 hm, i32_10, i32_00, sp_r0 hN, sp_r1 hN, sp_r2 hN, sp_r3 hN, sp_r4 hN, sp_r5 hN, sp_r6 hN, sp_r7 hN, sp_r8 hN, sp_r9 hN, v_qS, wa_k hN.wn, wa_f hN.wn, wa_s hN.wn, wa_r1 hN.wn, wa_r2 hN.wn, wa_r3 hN.wn, wa_r5 hN.wn, wa_r6 hN.wn, wa_r7 hN.wn, wa_r8 hN.wn, wa_r9 hN.wn, wa_r10 hN.wn, wa_r11 hN.wn, hw.ga, hw.gb, m_in, hx']
    by_cases z : x < 0
    · simp only [z, Option.bind_some, reduceIte, if_true, if_false, Bool.false_eq_true, ck_tt]
      exact E2.ok (Ex.exc h rfl (by decide))
    · have : (x ≤ nI g) = False := eq_false fun y => (Eq.mp hx' ⟨Int32.not_lt.mp z, y⟩)
      simp only [z, this, Option.bind_some, reduceIte, if_true, if_false, Bool.false_eq_true, ck_tt]
      exact E2.ok (Ex.exc h rfl (by decide))
  have hx' : ((0 : Int32) ≤ nI q ∧ nI q ≤ nI g) = True := eq_true ⟨nI_pos' (by omega), nI_le hq (by omega)⟩
  simp only [sp_k hN, Option.bind_some, reduceIte, if_true, if_false, Bool.false_eq_true, ck_tt, mw_s hm, v_qS, mo_k hm, mw_f hm, mo_r1 hm, mw_gates hm, mw_walkers hm, bdX_l, bdX_r, m_thr0, m_thr1 hm, i32_10, i32_00, sp_r0 hN, sp_r1 hN, sp_r2 hN, sp_r3 hN, sp_r4 hN, sp_r5 hN, sp_r6 hN, sp_r7 hN, sp_r8 hN, sp_r9 hN, v_qS, wa_k hN.wn, wa_f hN.wn, wa_s hN.wn, wa_r1 hN.wn, wa_r2 hN.wn, wa_r3 hN.wn, wa_r5 hN.wn, wa_r6 hN.wn, wa_r7 hN.wn, wa_r8 hN.wn, wa_r9 hN.wn, wa_r10 hN.wn, wa_r11 hN.wn, hw.ga, hw.gb, m_in, nI_lt0 (show q < 2 ^ 31 by omega), cm_leT hq (show g < 2 ^ 31 by omega), show ((0 : Int32) ≤ nI q) = True from eq_true (nI_pos' (by omega)), and_self]
  refine E2.bindL (r_mon hw hN.wn hm hq) ?_
  rintro u ⟨u', M'⟩ ⟨e, e'⟩
  have e : u = u' := e
  have e' : M' = _ := e'
  subst e e'
  exact E1.ok (Ex.val h _)
end CALL4
