/-! the two calls -/
theorem an_loop1 {B : Type} {f : Int32 × Int32 → Option ((Int32 × Int32) ⊕ B)} {F : Nat → Bool} {n : Nat} {r : Int32 → B} (hn : n < 2 ^ 16) (h1 : ∀ i (b : Bool), i < n → f (if b = true then 1 else 0, nI i) = some (.inl (if (b && F i) = true then 1 else 0, nI i + 1))) (h3 : ∀ x, f (x, nI n) = some (.inr (r x))) : loopN LIM f (1, 0) = some (r (if alB F n = true then 1 else 0)) := by
  have := an_loop true hn h1 h3
  rwa [if_pos rfl, Bool.true_and] at this
theorem an_loop0 {B : Type} {f : Int32 × Int32 → Option ((Int32 × Int32) ⊕ B)} {F : Nat → Bool} {n : Nat} {r : Int32 → B} (hn : n < 2 ^ 16) (h1 : ∀ i (b : Bool), i < n → f (if b = true then 1 else 0, nI i) = some (.inl (if (b && F i) = true then 1 else 0, nI i + 1))) (h3 : ∀ x, f (x, nI n) = some (.inr (r x))) : loopN LIM f (0, 0) = some (r 0) := by
  have := an_loop false hn h1 h3
  rwa [if_neg Bool.false_ne_true, Bool.false_and, if_neg Bool.false_ne_true] at this
/-- the other side takes the tape -/
def tJ (J : IM) (L : Nat) : IM := u2 (u2 (u2 (u2 J 1528 0 0) 1528 10 (nI L)) 1528 8 0) 1528 9 0
section CHOP2
variable {a b c d s g w k v q p n L o hh n' L' t r : Nat} {I I' I2 : IM} {W W' : Nat → Int32} {N N' N2 K : NM} {J J' J2 : IM} {M M' : Mem} {P : List lnT} {tr : Nat → Int32} {x y z : Int32}
theorem m_uses (hm : MN K) (e8 : J 1528 8 = nI L) : F_Mo_uses 1528 (rowI J 1529 W, K) = some (rowI (tJ J L) 1529 W, K) := by
  unfold F_Mo_uses tJ
  simp only [mw_s hm, mw_f hm, Option.bind_some, reduceIte, if_true, if_false, Bool.false_eq_true, ck_tt, u2_n J 1528 0 0 (show ¬ (1528 = 1528 ∧ 8 = 0) by omega), e8]
theorem tJ_10 : tJ J L 1528 10 = nI L := by
  unfold tJ
  rw [u2_n _ _ _ _ (by omega), u2_n _ _ _ _ (by omega), u2_s]
theorem tJ_0 : tJ J L 1528 0 = 0 := by
  unfold tJ
  rw [u2_n _ _ _ _ (by omega), u2_n _ _ _ _ (by omega), u2_n _ _ _ _ (by omega), u2_s]
theorem tJ_8 : tJ J L 1528 8 = 0 := by
  unfold tJ
  rw [u2_n _ _ _ _ (by omega), u2_s]
theorem tJ_o (c j : Nat) (h : ¬ (c = 1528 ∧ (j = 0 ∨ (8 ≤ j ∧ j ≤ 10)))) : tJ J L c j = J c j := by
  unfold tJ
  rw [u2_n _ _ _ _ (by omega), u2_n _ _ _ _ (by omega), u2_n _ _ _ _ (by omega), u2_n _ _ _ _ (by omega)]
/-- the tape is taken, by both -/
theorem INVp.took (h : INVp N I K (rowI J 1529 W) g w p P n L o hh) : INVp N (u2 I 1001 1 0) K (rowI (tJ J L) 1529 W) g w p P n 0 o hh ∧ FrC I (u2 I 1001 1 0) ∧ FrM (rowI J 1529 W) (rowI (tJ J L) 1529 W) :=
  h.ct (fun c hc => u2_o _ _ _ _ (by omega)) (fun c j z1 z2 z3 z4 => tJ_o c j (by omega)) (fun _ _ => rfl) (h.cr.cong (fun c c1 c2 => u2_o _ _ _ _ (by omega)) (fun _ _ => rfl)) ⟨u2_s _ _ _ _, tJ_8, Nat.zero_le _, fun k hk => absurd hk (Nat.not_lt_zero _)⟩
theorem let_tst {x : Nat} (hx : x < 256) : (if (nI x).toInt8.toInt32 < (97 : Int32) then some false else if (122 : Int32) < (nI x).toInt8.toInt32 then some false else some true) = some (decide (97 ≤ x ∧ x ≤ 122)) := by
  have hb := (by_let x hx).1
  generalize (nI x).toInt8.toInt32 = y at hb ⊢
  by_cases c1 : y < 97
  · rw [if_pos c1, decide_eq_false (fun z => absurd (hb.mpr z).1 (Int32.not_le.mpr c1))]
  · rw [if_neg c1]
    by_cases c2 : 122 < y
    · rw [if_pos c2, decide_eq_false (fun z => absurd (hb.mpr z).2 (Int32.not_le.mpr c2))]
    · rw [if_neg c2, decide_eq_true (hb.mp ⟨Int32.not_lt.mp c1, Int32.not_lt.mp c2⟩)]
theorem tJ_33 (h : TPr I J L) {i : Nat} (hi : i < L) : rowI (tJ J L) 1529 W 1533 i = (nI (bxV I i)).toInt8.toInt32 := by
  rw [rw_n _ _ (by omega), tJ_o _ _ (by omega)]; exact (h.at hi).2.2
theorem op_chain (h : INVp N I K (rowI J 1529 W) g w p P n L o hh) : E2 (F_RR_chain 1000 (I, N)) (F_Mo_chain 1528 (rowI J 1529 W, K)) (Ex (fun c => if c = 1 then 1 else if c = 3 then 2 else 0) N I K (rowI J 1529 W)) := by
  have hN := h.1
  have hm := h.2.1
  have hw := h.wr
  have h12 := hw.g12
  have hc := h.cr
  have k0 : kS N 1001 = 15 := hN.2.1.1
  have r0 : kR N 1001 0 = 1002 := hN.2.1.2.1
  have ht := h.2.2.2.2.2.2.1.row
  have hL := ht.2.2.1
  obtain ⟨ht1, ht2, ht3⟩ := h.took
  have e1 : u2 I 1001 1 0 1007 0 = nI g := by rw [u2_n _ _ _ _ (by omega)]; exact hw.ga
  unfold F_RR_chain F_Mo_chain
  simp only [sp_k hN, Option.bind_some, reduceIte, if_true, if_false, Bool.false_eq_true, ck_tt, mw_s hm, v_qS, mo_k hm, mw_f hm, mo_r1 hm, mw_gates hm, mw_walkers hm, bdX_l, bdX_r, m_thr0, m_thr1 hm, i32_10, i32_00, sp_r0 hN, sp_r1 hN, sp_r2 hN, sp_r3 hN, sp_r4 hN, sp_r5 hN, sp_r6 hN, sp_r7 hN, sp_r8 hN, sp_r9 hN, v_fI k0, v_sI k0, ht.1, v_qS, wa_k hN.wn, wa_f hN.wn, wa_s hN.wn, wa_r1 hN.wn, wa_r2 hN.wn, wa_r3 hN.wn, wa_r5 hN.wn, wa_r6 hN.wn, wa_r7 hN.wn, wa_r8 hN.wn, wa_r9 hN.wn, wa_r10 hN.wn, wa_r11 hN.wn, e1, hw.gb, m_uses hm ht.2.1, tJ_10, c_onlyL (I' := u2 I 1001 1 0) hN ht (fun k => u2_n _ _ _ _ (by omega)), k0]
  by_cases hg : L = g
  · subst hg
    simp only [Option.bind_some, reduceIte, if_true, if_false, Bool.false_eq_true, ck_tt]
    rw [an_loop1 (F := leB I) (n := L) (r := fun x => x) (by omega) ?_ ?_]
    · cases hA : alB (leB I) L with
      | false =>
        simp only [sp_k hN, Option.bind_some, reduceIte, if_true, if_false, Bool.false_eq_true, ck_tt, mw_s hm, v_qS, mo_k hm, mw_f hm, mo_r1 hm, mw_gates hm, mw_walkers hm, bdX_l, bdX_r, m_thr0, m_thr1 hm, i32_10, i32_00, sp_r0 hN, sp_r1 hN, sp_r2 hN, sp_r3 hN, sp_r4 hN, sp_r5 hN, sp_r6 hN, sp_r7 hN, sp_r8 hN, sp_r9 hN]
        exact E2.ok (Ex.to (Ex.exc1 ht1 rfl (by decide)) ht2 ht3)
      | true =>
        have hn6 : u2 I 1001 1 0 1475 3 = nI n := by rw [u2_n _ _ _ _ (by omega)]; exact hc.2.1
        have h6 := hc.1
        simp only [sp_k hN, Option.bind_some, reduceIte, if_true, if_false, Bool.false_eq_true, ck_tt, mw_s hm, v_qS, mo_k hm, mw_f hm, mo_r1 hm, mw_gates hm, mw_walkers hm, bdX_l, bdX_r, m_thr0, m_thr1 hm, i32_10, i32_00, sp_r0 hN, sp_r1 hN, sp_r2 hN, sp_r3 hN, sp_r4 hN, sp_r5 hN, sp_r6 hN, sp_r7 hN, sp_r8 hN, sp_r9 hN, v_fI hN.cn.1.1, hn6, mw_a hm (show (285 : Int32) = nI 285 from rfl) (show 285 < 2038 by omega), hc.2.2.1]
        by_cases c6 : n = 6
        · simp only [c6, show (nI 6 < (6 : Int32)) = False from eq_false (by decide), show (nI 6 = (6 : Int32)) = True from eq_true rfl, sp_k hN, Option.bind_some, reduceIte, if_true, if_false, Bool.false_eq_true, ck_tt, mw_s hm, v_qS, mo_k hm, mw_f hm, mo_r1 hm, mw_gates hm, mw_walkers hm, bdX_l, bdX_r, m_thr0, m_thr1 hm, i32_10, i32_00, sp_r0 hN, sp_r1 hN, sp_r2 hN, sp_r3 hN, sp_r4 hN, sp_r5 hN, sp_r6 hN, sp_r7 hN, sp_r8 hN, sp_r9 hN]
          exact E2.ok (Ex.to (Ex.exc1 ht1 rfl (by decide)) ht2 ht3)
        · have hlt : n < 6 := by omega
          simp only [show (nI n < (6 : Int32)) = True from cm_ltT (b := 6) hlt (by omega), show (nI n = (6 : Int32)) = False from cm_eqF (b := 6) c6 (by omega) (by omega), sp_k hN, Option.bind_some, reduceIte, if_true, if_false, Bool.false_eq_true, ck_tt, mw_s hm, v_qS, mo_k hm, mw_f hm, mo_r1 hm, mw_gates hm, mw_walkers hm, bdX_l, bdX_r, m_thr0, m_thr1 hm, i32_10, i32_00, sp_r0 hN, sp_r1 hN, sp_r2 hN, sp_r3 hN, sp_r4 hN, sp_r5 hN, sp_r6 hN, sp_r7 hN, sp_r8 hN, sp_r9 hN, v_fR k0, r0, hN.cn.1.1]
          refine E2.left (c_chadd (I := u2 I 1001 1 0) hN hlt (L := L) (by omega) hn6) ?_
          rintro _ ⟨I2, rfl, f1, f2, f3, f4⟩
          simp only [mw_a hm (show (285 : Int32) = nI 285 from rfl) (show 285 < 2038 by omega), hc.2.2.1, Option.bind_some, reduceIte, if_true, if_false, Bool.false_eq_true, ck_tt, tJ_10]
          rw [show (286 : Int32) + (13 : Int32) * nI n = nI (286 + 13 * n) by rw [show (13 : Int32) * nI n = nI (13 * n) from pk_mul 13 n, show (286 : Int32) = nI 286 from rfl, nI_add]]
          simp only [mw_t hm (rfl : nI (286 + 13 * n) = nI (286 + 13 * n)) (show 286 + 13 * n < 2038 by omega), Option.bind_some, reduceIte, if_true, if_false, Bool.false_eq_true, ck_tt]
          refine E2.right (P := fun M => ∃ W', M = (rowI (tJ J L) 1529 W', K) ∧ W' (286 + 13 * n) = nI L ∧ (∀ k, k < L → W' (286 + 13 * n + (1 + k)) = (nI (bxV I k)).toInt8.toInt32) ∧ ∀ j, ¬ (286 + 13 * n ≤ j ∧ j < 299 + 13 * n) → W' j = W j) ?_ ?_
          · refine lq1 (fun i s => ∃ W', s = (nI i, (rowI (tJ J L) 1529 W', K)) ∧ W' (286 + 13 * n) = nI L ∧ (∀ k, k < i → W' (286 + 13 * n + (1 + k)) = (nI (bxV I k)).toInt8.toInt32) ∧ ∀ j, ¬ (286 + 13 * n ≤ j ∧ j < 299 + 13 * n) → W' j = W j) _ L (lim_lt (by omega)) (Nat.zero_le _) ⟨_, rfl, pk_us, fun k hk => absurd hk (Nat.not_lt_zero _), fun j hj => pk_un (by omega)⟩ ?_ ?_
            · rintro i s hi ⟨W1, rfl, w1, w2, w3⟩
              rw [show nI (286 + 13 * n) + (1 : Int32) + nI i = nI (286 + 13 * n + (1 + i)) by rw [show nI (286 + 13 * n) + (1 : Int32) = nI (286 + 13 * n + 1) from nI_add _ 1, nI_add, Nat.add_assoc]]
              simp only [sp_k hN, Option.bind_some, reduceIte, if_true, if_false, Bool.false_eq_true, ck_tt, mw_s hm, v_qS, mo_k hm, mw_f hm, mo_r1 hm, mw_gates hm, mw_walkers hm, bdX_l, bdX_r, m_thr0, m_thr1 hm, i32_10, i32_00, sp_r0 hN, sp_r1 hN, sp_r2 hN, sp_r3 hN, sp_r4 hN, sp_r5 hN, sp_r6 hN, sp_r7 hN, sp_r8 hN, sp_r9 hN, tJ_10, cm_leF hi (show L < 2 ^ 31 by omega), mo_r7 hm, mo_ab hm (rfl : nI i = nI i) (show i < 400 by omega), tJ_33 ht hi, mw_t hm (rfl : nI (286 + 13 * n + (1 + i)) = nI (286 + 13 * n + (1 + i))) (show 286 + 13 * n + (1 + i) < 2038 by omega)]
              refine E1.ok ⟨_, Prod.ext (nI_1 i) rfl, (pk_un (by omega)).trans w1, fun k hk => ?_, fun j hj => (pk_un (by omega)).trans (w3 j hj)⟩
              by_cases e : k = i
              · subst e; exact pk_us
              · exact (pk_un (by omega)).trans (w2 k (by omega))
            · rintro s ⟨W1, rfl, w1, w2, w3⟩
              simp only [sp_k hN, Option.bind_some, reduceIte, if_true, if_false, Bool.false_eq_true, ck_tt, mw_s hm, v_qS, mo_k hm, mw_f hm, mo_r1 hm, mw_gates hm, mw_walkers hm, bdX_l, bdX_r, m_thr0, m_thr1 hm, i32_10, i32_00, sp_r0 hN, sp_r1 hN, sp_r2 hN, sp_r3 hN, sp_r4 hN, sp_r5 hN, sp_r6 hN, sp_r7 hN, sp_r8 hN, sp_r9 hN, tJ_10, cm_leT (Nat.le_refl L) (show L < 2 ^ 31 by omega)]
              exact E1.ok ⟨W1, rfl, w1, w2, w3⟩
          · rintro _ ⟨W1, rfl, w1, w2, w3⟩
            have e285 : W1 285 = nI n := by rw [w3 _ (by omega)]; exact hc.2.2.1
            simp only [sp_k hN, Option.bind_some, reduceIte, if_true, if_false, Bool.false_eq_true, ck_tt, mw_s hm, v_qS, mo_k hm, mw_f hm, mo_r1 hm, mw_gates hm, mw_walkers hm, bdX_l, bdX_r, m_thr0, m_thr1 hm, i32_10, i32_00, sp_r0 hN, sp_r1 hN, sp_r2 hN, sp_r3 hN, sp_r4 hN, sp_r5 hN, sp_r6 hN, sp_r7 hN, sp_r8 hN, sp_r9 hN, mw_a hm (show (285 : Int32) = nI 285 from rfl) (show 285 < 2038 by omega), mw_t hm (show (285 : Int32) = nI 285 from rfl) (show 285 < 2038 by omega), e285, pk_us]
            rw [show nI n + (1 : Int32) - (1 : Int32) = nI n from Int32.add_sub_cancel _ _]
            have hall := alB_iff.mp hA
            refine E2.ok (Ex.ct (n' := n + 1) (L' := 0) h (fun c hc => funext fun j => by rw [f4 c j (by omega) (by omega) (by omega), u2_n _ _ _ _ (by omega)]) (fun c j z1 z2 z3 z4 => tJ_o c j (by omega)) (fun j hj => (pk_un (by omega)).trans (w3 j (by omega))) ⟨by omega, f3, pk_us.trans (nI_add n 1), fun i hi => ?_⟩ ⟨by rw [f4 _ _ (by omega) (by omega) (by omega), u2_s]; rfl, tJ_8, Nat.zero_le _, fun k hk => absurd hk (Nat.not_lt_zero _)⟩ tJ_0 _)
            by_cases e : i = n
            · subst e
              refine ⟨L, Nat.le_refl _, f2, (pk_un (by omega)).trans w1, fun k hk => ?_⟩
              have hx : 97 ≤ bxV I k ∧ bxV I k ≤ 122 := of_decide_eq_true (hall k hk)
              have e1 : I2 (1475 + 2 + i) k = nI (bxV I k) := by rw [f1 k hk, u2_n _ _ _ _ (by omega)]; exact (ht.at hk).2.1
              refine ⟨?_, bxV I k, by omega, e1⟩
              rw [e1]
              refine ((pk_un (by omega)).trans ((w2 k hk).trans ((by_let _ (ht.at hk).1).2.2.1 (by omega)))).symm
            · obtain ⟨l, l1, l2, l3, l4⟩ := hc.2.2.2 i (by omega)
              refine ⟨l, l1, by rw [f4 _ _ (by omega) (by omega) (by omega), u2_n _ _ _ _ (by omega)]; exact l2, (pk_un (by omega)).trans ((w3 _ (by omega)).trans l3), fun k hk => ?_⟩
              rw [f4 _ _ (by omega) (by omega) (by omega), u2_n _ _ _ _ (by omega)]
              obtain ⟨l5, l6⟩ := l4 k hk
              exact ⟨l5.trans ((pk_un (by omega)).trans (w3 _ (by omega))).symm, l6⟩
    · intro i b hi
      have hb : leB I i = decide (97 ≤ bxV I i ∧ bxV I i ≤ 122) := rfl
      simp only [sp_k hN, Option.bind_some, reduceIte, if_true, if_false, Bool.false_eq_true, ck_tt, mw_s hm, v_qS, mo_k hm, mw_f hm, mo_r1 hm, mw_gates hm, mw_walkers hm, bdX_l, bdX_r, m_thr0, m_thr1 hm, i32_10, i32_00, sp_r0 hN, sp_r1 hN, sp_r2 hN, sp_r3 hN, sp_r4 hN, sp_r5 hN, sp_r6 hN, sp_r7 hN, sp_r8 hN, sp_r9 hN, tJ_10, cm_leF hi (show L < 2 ^ 31 by omega), mo_r7 hm, mo_ab hm (rfl : nI i = nI i) (show i < 400 by omega), tJ_33 ht hi, let_tst (ht.at hi).1, hb]
      cases b <;> cases decide (97 ≤ bxV I i ∧ bxV I i ≤ 122) <;> rfl
    · intro x
      simp only [sp_k hN, Option.bind_some, reduceIte, if_true, if_false, Bool.false_eq_true, ck_tt, mw_s hm, v_qS, mo_k hm, mw_f hm, mo_r1 hm, mw_gates hm, mw_walkers hm, bdX_l, bdX_r, m_thr0, m_thr1 hm, i32_10, i32_00, sp_r0 hN, sp_r1 hN, sp_r2 hN, sp_r3 hN, sp_r4 hN, sp_r5 hN, sp_r6 hN, sp_r7 hN, sp_r8 hN, sp_r9 hN, tJ_10, cm_leT (Nat.le_refl L) (show L < 2 ^ 31 by omega)]
  · simp only [cm_eqF hg (show L < 2 ^ 31 by omega) (show g < 2 ^ 31 by omega), Option.bind_some, reduceIte, if_true, if_false, Bool.false_eq_true, ck_tt]
    rw [an_loop0 (F := leB I) (n := L) (r := fun x => x) (by omega) ?_ ?_]
    · simp only [sp_k hN, Option.bind_some, reduceIte, if_true, if_false, Bool.false_eq_true, ck_tt, mw_s hm, v_qS, mo_k hm, mw_f hm, mo_r1 hm, mw_gates hm, mw_walkers hm, bdX_l, bdX_r, m_thr0, m_thr1 hm, i32_10, i32_00, sp_r0 hN, sp_r1 hN, sp_r2 hN, sp_r3 hN, sp_r4 hN, sp_r5 hN, sp_r6 hN, sp_r7 hN, sp_r8 hN, sp_r9 hN]
      exact E2.ok (Ex.to (Ex.exc1 ht1 rfl (by decide)) ht2 ht3)
    · intro i b hi
      have hb : leB I i = decide (97 ≤ bxV I i ∧ bxV I i ≤ 122) := rfl
      simp only [sp_k hN, Option.bind_some, reduceIte, if_true, if_false, Bool.false_eq_true, ck_tt, mw_s hm, v_qS, mo_k hm, mw_f hm, mo_r1 hm, mw_gates hm, mw_walkers hm, bdX_l, bdX_r, m_thr0, m_thr1 hm, i32_10, i32_00, sp_r0 hN, sp_r1 hN, sp_r2 hN, sp_r3 hN, sp_r4 hN, sp_r5 hN, sp_r6 hN, sp_r7 hN, sp_r8 hN, sp_r9 hN, tJ_10, cm_leF hi (show L < 2 ^ 31 by omega), mo_r7 hm, mo_ab hm (rfl : nI i = nI i) (show i < 400 by omega), tJ_33 ht hi, let_tst (ht.at hi).1, hb]
      cases b <;> cases decide (97 ≤ bxV I i ∧ bxV I i ≤ 122) <;> rfl
    · intro x
      simp only [sp_k hN, Option.bind_some, reduceIte, if_true, if_false, Bool.false_eq_true, ck_tt, mw_s hm, v_qS, mo_k hm, mw_f hm, mo_r1 hm, mw_gates hm, mw_walkers hm, bdX_l, bdX_r, m_thr0, m_thr1 hm, i32_10, i32_00, sp_r0 hN, sp_r1 hN, sp_r2 hN, sp_r3 hN, sp_r4 hN, sp_r5 hN, sp_r6 hN, sp_r7 hN, sp_r8 hN, sp_r9 hN, tJ_10, cm_leT (Nat.le_refl L) (show L < 2 ^ 31 by omega)]
end CHOP2
