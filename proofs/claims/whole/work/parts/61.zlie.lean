/-! lies told -/
def cnL (I : IM) (i j : Nat) : Int32 := if bxV I j = (if j = i then 84 else 70) then 1 else 0
def liV (I : IM) (L : Nat) (x : Int32) (i : Nat) : Int32 := if x < suI (cnL I i) L then 0 else (1 : Int32) <<< (nI i &&& 31)
theorem nI_is {x c : Nat} (hx : x < 256) (hc : c < 256) : (nI x = nI c) = (x = c) := propext (nI_eq (by omega) (by omega))
section LIE
variable {a b c d s g w k v q p n L o hh n' L' t r : Nat} {I I' I2 : IM} {W W' : Nat → Int32} {N N' N2 K : NM} {J J' J2 : IM} {M M' : Mem} {P : List lnT} {tr : Nat → Int32} {x y z : Int32}
theorem cn_e (hb : bxV I q < 256) (i : Nat) (hi : i < 400) (hq : q < 400) : (if nI (bxV I q) = (if nI q = nI i then (84 : Int32) else 70) then (1 : Int32) else 0) = cnL I i q := by
  unfold cnL
  by_cases e : q = i
  · simp only [e, if_true, show (84 : Int32) = nI 84 from rfl]
    rw [e] at hb
    simp only [nI_is hb (show 84 < 256 by omega)]
  · have e' : (nI q = nI i) = False := eq_false fun z => e ((nI_eq (by omega) (by omega)).mp z)
    simp only [e, e', if_false, show (70 : Int32) = nI 70 from rfl, nI_is hb (show 70 < 256 by omega)]
theorem c_lie (hs : Shp N) (h : TPr I J L) (e : ∀ k, I' 1002 k = I 1002 k) (x : Int32) : F_Plans_gatesOfLie 1002 (nI L) x (I', N) = some (orI (liV I L x) L) := by
  obtain ⟨k0, r0, k1, n1⟩ := hs.2.1
  have hL := h.2.2.1
  unfold F_Plans_gatesOfLie
  refine or_loop (F := liV I L x) (n := L) (r := fun x => x) (by omega) (fun i y hi => ?_) (fun y => ?_)
  · simp only [cm_leF hi (show L < 2 ^ 31 by omega), Option.bind_some, reduceIte, if_true, if_false, Bool.false_eq_true, ck_tt]
    rw [su_loop (F := cnL I i) (n := L) (r := fun x => x) 0 (by omega) (fun q y hq => ?_) (fun y => ?_), Int32.zero_add]
    · simp only [Option.bind_some, reduceIte, if_true, if_false, Bool.false_eq_true, ck_tt]
      unfold liV
      by_cases c : x < suI (cnL I i) L
      · simp only [c, Option.bind_some, reduceIte, if_true, if_false, Bool.false_eq_true, ck_tt]
      · simp only [c, Option.bind_some, reduceIte, if_true, if_false, Bool.false_eq_true, ck_tt]
    · have hb := (h.at hq).1
      have ha : aI (I', N) 1002 (nI q) = some (nI (bxV I q)) := by rw [v_aI k1 n1 rfl (show q < 400 by omega) (by omega), e, (h.at hq).2.1]
      have := cn_e hb i (by omega) (show q < 400 by omega)
      simp only [cm_leF hq (show L < 2 ^ 31 by omega), v_aN (show 1 ≤ kS N 1002 by omega) (show kS N 1002 ≤ 6 by omega), n1, cm_leF (show q < 400 by omega) (show 400 < 2 ^ 31 by omega), Option.bind_some, reduceIte, if_true, if_false, Bool.false_eq_true, ck_tt]
      by_cases e1 : nI q = nI i
      · rw [if_pos e1] at this
        simp only [e1, Option.bind_some, reduceIte, if_true, if_false, Bool.false_eq_true, ck_tt]
        rw [e1] at ha
        simp only [ha, Option.bind_some, reduceIte, if_true, if_false, Bool.false_eq_true, ck_tt]
        rw [← this]
        by_cases e2 : nI (bxV I q) = 84
        · simp only [e2, Option.bind_some, reduceIte, if_true, if_false, Bool.false_eq_true, ck_tt]
        · simp only [e2, Option.bind_some, reduceIte, if_true, if_false, Bool.false_eq_true, ck_tt]
      · rw [if_neg e1] at this
        simp only [e1, Option.bind_some, reduceIte, if_true, if_false, Bool.false_eq_true, ck_tt, ha]
        rw [← this]
        by_cases e2 : nI (bxV I q) = 70
        · simp only [e2, Option.bind_some, reduceIte, if_true, if_false, Bool.false_eq_true, ck_tt]
        · simp only [e2, Option.bind_some, reduceIte, if_true, if_false, Bool.false_eq_true, ck_tt]
    · simp only [cm_leT (Nat.le_refl L) (show L < 2 ^ 31 by omega), Option.bind_some, reduceIte, if_true, if_false, Bool.false_eq_true, ck_tt]
  · simp only [cm_leT (Nat.le_refl L) (show L < 2 ^ 31 by omega), Option.bind_some, reduceIte, if_true, if_false, Bool.false_eq_true, ck_tt]
theorem say_tst {x : Nat} (hx : x < 256) : (if (nI x).toInt8.toInt32 = (84 : Int32) then some true else if (nI x).toInt8.toInt32 = (70 : Int32) then some true else if (nI x).toInt8.toInt32 = (63 : Int32) then some true else some false) = some (decide (x = 84 ∨ x = 70 ∨ x = 63)) := by
  have hb := (by_let x hx).2.2.2.1
  generalize (nI x).toInt8.toInt32 = y at hb ⊢
  by_cases c1 : y = 84
  · rw [if_pos c1, decide_eq_true (hb.mp (Or.inl c1))]
  · rw [if_neg c1]
    by_cases c2 : y = 70
    · rw [if_pos c2, decide_eq_true (hb.mp (Or.inr (Or.inl c2)))]
    · rw [if_neg c2]
      by_cases c3 : y = 63
      · rw [if_pos c3, decide_eq_true (hb.mp (Or.inr (Or.inr c3)))]
      · rw [if_neg c3, decide_eq_false (fun z => by rcases hb.mpr z with z | z | z; exact c1 z; exact c2 z; exact c3 z)]
theorem op_lie (h : INVp N I K (rowI J 1529 W) g w p P n L o hh) (x : Int32) : E2 (F_RR_lie 1000 x (I, N)) (F_Mo_lie 1528 x (rowI J 1529 W, K)) (Ex (fun c => if c = 1 then 1 else 0) N I K (rowI J 1529 W)) := by
  have hN := h.1
  have hm := h.2.1
  have hw := h.wr
  have h12 := hw.g12
  have k0 : kS N 1001 = 15 := hN.2.1.1
  have r0 : kR N 1001 0 = 1002 := hN.2.1.2.1
  have ht := h.2.2.2.2.2.2.1.row
  have hL := ht.2.2.1
  obtain ⟨ht1, ht2, ht3⟩ := h.took
  have e1 : u2 I 1001 1 0 1007 0 = nI g := by rw [u2_n _ _ _ _ (by omega)]; exact hw.ga
  unfold F_RR_lie F_Mo_lie
  simp only [sp_k hN, Option.bind_some, reduceIte, if_true, if_false, Bool.false_eq_true, ck_tt, mw_s hm, v_qS, mo_k hm, mw_f hm, mo_r1 hm, mw_gates hm, mw_walkers hm, bdX_l, bdX_r, m_thr0, m_thr1 hm, i32_10, i32_00, sp_r0 hN, sp_r1 hN, sp_r2 hN, sp_r3 hN, sp_r4 hN, sp_r5 hN, sp_r6 hN, sp_r7 hN, sp_r8 hN, sp_r9 hN, v_fI k0, v_sI k0, ht.1, v_qS, wa_k hN.wn, wa_f hN.wn, wa_s hN.wn, wa_r1 hN.wn, wa_r2 hN.wn, wa_r3 hN.wn, wa_r5 hN.wn, wa_r6 hN.wn, wa_r7 hN.wn, wa_r8 hN.wn, wa_r9 hN.wn, wa_r10 hN.wn, wa_r11 hN.wn, e1, hw.gb, m_uses hm ht.2.1, tJ_10, m_in, c_onlyS (I' := u2 I 1001 1 0) hN ht (fun k => u2_n _ _ _ _ (by omega)), k0]
  have last : ∀ x : Int32, (if nI L ≤ nI L then (some (.inr x) : Option ((Int32 × Int32) ⊕ Int32)) else none) = some (.inr x) := fun x => if_pos (Int32.le_refl _)
  by_cases hok : L = g ∧ ((0 : Int32) ≤ x ∧ x ≤ 12)
  · obtain ⟨hg, hx⟩ := hok
    subst hg
    simp only [hx, and_self, sp_k hN, Option.bind_some, reduceIte, if_true, if_false, Bool.false_eq_true, ck_tt, mw_s hm, v_qS, mo_k hm, mw_f hm, mo_r1 hm, mw_gates hm, mw_walkers hm, bdX_l, bdX_r, m_thr0, m_thr1 hm, i32_10, i32_00, sp_r0 hN, sp_r1 hN, sp_r2 hN, sp_r3 hN, sp_r4 hN, sp_r5 hN, sp_r6 hN, sp_r7 hN, sp_r8 hN, sp_r9 hN, eq_false (Int32.not_lt.mpr hx.1)]
    rw [an_loop1 (F := syB I) (n := L) (r := fun x => x) (by omega) ?_ ?_]
    · cases hA : alB (syB I) L with
      | false =>
        simp only [sp_k hN, Option.bind_some, reduceIte, if_true, if_false, Bool.false_eq_true, ck_tt, mw_s hm, v_qS, mo_k hm, mw_f hm, mo_r1 hm, mw_gates hm, mw_walkers hm, bdX_l, bdX_r, m_thr0, m_thr1 hm, i32_10, i32_00, sp_r0 hN, sp_r1 hN, sp_r2 hN, sp_r3 hN, sp_r4 hN, sp_r5 hN, sp_r6 hN, sp_r7 hN, sp_r8 hN, sp_r9 hN]
        exact E2.ok (Ex.to (Ex.exc1 ht1 rfl (by decide)) ht2 ht3)
      | true =>
        have hall := alB_iff.mp hA
        simp only [sp_k hN, Option.bind_some, reduceIte, if_true, if_false, Bool.false_eq_true, ck_tt, mw_s hm, v_qS, mo_k hm, mw_f hm, mo_r1 hm, mw_gates hm, mw_walkers hm, bdX_l, bdX_r, m_thr0, m_thr1 hm, i32_10, i32_00, sp_r0 hN, sp_r1 hN, sp_r2 hN, sp_r3 hN, sp_r4 hN, sp_r5 hN, sp_r6 hN, sp_r7 hN, sp_r8 hN, sp_r9 hN, v_fR k0, r0, c_lie (I' := u2 I 1001 1 0) hN ht (fun k => u2_n _ _ _ _ (by omega)), hw.gb]
        rw [or_loop (F := liV I L x) (n := L) (r := fun x => (x, (rowI (tJ J L) 1529 W, K))) (by omega) (fun i y hi => ?_) (fun y => ?_)]
        · exact E2.ok ⟨_, N, _, rfl, ⟨_, _, _, _, _, _, _, _, ht1⟩, ht2, ht3, Or.inl ⟨_, rfl, rfl, by rw [rw_n _ _ (by omega)]; exact tJ_0⟩⟩
        · simp only [cm_leF hi (show L < 2 ^ 31 by omega), Option.bind_some, reduceIte, if_true, if_false, Bool.false_eq_true, ck_tt]
          rw [su_loop (F := cnL I i) (n := L) (r := fun x => x) 0 (by omega) (fun q y hq => ?_) (fun y => ?_), Int32.zero_add]
          · simp only [Option.bind_some, reduceIte, if_true, if_false, Bool.false_eq_true, ck_tt]
            unfold liV
            by_cases c : x < suI (cnL I i) L
            · simp only [c, Option.bind_some, reduceIte, if_true, if_false, Bool.false_eq_true, ck_tt]
            · simp only [c, Option.bind_some, reduceIte, if_true, if_false, Bool.false_eq_true, ck_tt]
          · have hb := (ht.at hq).1
            have hs : bxV I q = 84 ∨ bxV I q = 70 ∨ bxV I q = 63 := of_decide_eq_true (hall q hq)
            have ha : (nI (bxV I q)).toInt8.toInt32 = nI (bxV I q) := (by_let _ hb).2.2.1 (by omega)
            have hab := tJ_33 (W := W) ht hq
            rw [ha] at hab
            have := cn_e hb i (by omega) (show q < 400 by omega)
            simp only [cm_leF hq (show L < 2 ^ 31 by omega), Option.bind_some, reduceIte, if_true, if_false, Bool.false_eq_true, ck_tt, mo_r7 hm, mo_ab hm (rfl : nI q = nI q) (show q < 400 by omega), hab]
            by_cases e1 : nI q = nI i
            · rw [if_pos e1] at this
              simp only [e1, Option.bind_some, reduceIte, if_true, if_false, Bool.false_eq_true, ck_tt]
              rw [← this]
              by_cases e2 : nI (bxV I q) = 84
              · simp only [e2, Option.bind_some, reduceIte, if_true, if_false, Bool.false_eq_true, ck_tt]
              · simp only [e2, Option.bind_some, reduceIte, if_true, if_false, Bool.false_eq_true, ck_tt]
            · rw [if_neg e1] at this
              simp only [e1, Option.bind_some, reduceIte, if_true, if_false, Bool.false_eq_true, ck_tt]
              rw [← this]
              by_cases e2 : nI (bxV I q) = 70
              · simp only [e2, Option.bind_some, reduceIte, if_true, if_false, Bool.false_eq_true, ck_tt]
              · simp only [e2, Option.bind_some, reduceIte, if_true, if_false, Bool.false_eq_true, ck_tt]
          · simp only [cm_leT (Nat.le_refl L) (show L < 2 ^ 31 by omega), Option.bind_some, reduceIte, if_true, if_false, Bool.false_eq_true, ck_tt]
        · simp only [cm_leT (Nat.le_refl L) (show L < 2 ^ 31 by omega), Option.bind_some, reduceIte, if_true, if_false, Bool.false_eq_true, ck_tt]
    · intro i b hi
      have hb : syB I i = decide (bxV I i = 84 ∨ bxV I i = 70 ∨ bxV I i = 63) := rfl
      simp only [sp_k hN, Option.bind_some, reduceIte, if_true, if_false, Bool.false_eq_true, ck_tt, mw_s hm, v_qS, mo_k hm, mw_f hm, mo_r1 hm, mw_gates hm, mw_walkers hm, bdX_l, bdX_r, m_thr0, m_thr1 hm, i32_10, i32_00, sp_r0 hN, sp_r1 hN, sp_r2 hN, sp_r3 hN, sp_r4 hN, sp_r5 hN, sp_r6 hN, sp_r7 hN, sp_r8 hN, sp_r9 hN, tJ_10, cm_leF hi (show L < 2 ^ 31 by omega), mo_r7 hm, mo_ab hm (rfl : nI i = nI i) (show i < 400 by omega), tJ_33 ht hi, say_tst (ht.at hi).1, hb]
      cases b <;> cases decide (bxV I i = 84 ∨ bxV I i = 70 ∨ bxV I i = 63) <;> rfl
    · intro x
      simp only [sp_k hN, Option.bind_some, reduceIte, if_true, if_false, Bool.false_eq_true, ck_tt, mw_s hm, v_qS, mo_k hm, mw_f hm, mo_r1 hm, mw_gates hm, mw_walkers hm, bdX_l, bdX_r, m_thr0, m_thr1 hm, i32_10, i32_00, sp_r0 hN, sp_r1 hN, sp_r2 hN, sp_r3 hN, sp_r4 hN, sp_r5 hN, sp_r6 hN, sp_r7 hN, sp_r8 hN, sp_r9 hN, tJ_10, cm_leT (Nat.le_refl L) (show L < 2 ^ 31 by omega)]
  · have em : ((if nI L = nI g then (if (if (0 : Int32) ≤ x ∧ x ≤ 12 then (1 : Int32) else 0) = 0 then some false else some true) else some false : Option Bool).bind fun b6 => if b6 = true then (some (1 : Int32)) else (some (0 : Int32))) = some 0 := by
      by_cases hg : L = g
      · have hx : ¬ ((0 : Int32) ≤ x ∧ x ≤ 12) := fun z => hok ⟨hg, z⟩
        rw [if_pos (by rw [hg]), if_neg hx]; rfl
      · rw [if_neg (fun z => hg ((nI_eq (by omega) (by omega)).mp z))]; rfl
    rw [em]
    simp only [Option.bind_some, reduceIte, if_true, if_false, Bool.false_eq_true, ck_tt]
    rw [an_loop0 (F := syB I) (n := L) (r := fun x => x) (by omega) ?_ ?_]
    · simp only [sp_k hN, Option.bind_some, reduceIte, if_true, if_false, Bool.false_eq_true, ck_tt, mw_s hm, v_qS, mo_k hm, mw_f hm, mo_r1 hm, mw_gates hm, mw_walkers hm, bdX_l, bdX_r, m_thr0, m_thr1 hm, i32_10, i32_00, sp_r0 hN, sp_r1 hN, sp_r2 hN, sp_r3 hN, sp_r4 hN, sp_r5 hN, sp_r6 hN, sp_r7 hN, sp_r8 hN, sp_r9 hN]
      have fin : E2 (some (.inr (1, pNew (u2 I 1001 1 0, N) 30 0)) : Option ((Int32 × Mem) ⊕ (Nat × Mem))) (some ((0 : Int32), ((rowI (u2 (tJ J L) 1528 0 1) 1529 W, K) : Mem))) (Ex (fun c => if c = 1 then 1 else 0) N I K (rowI J 1529 W)) := E2.ok (Ex.to (Ex.exc1 ht1 rfl (by decide)) ht2 ht3)
      by_cases hg : L = g
      · have hx : ¬ ((0 : Int32) ≤ x ∧ x ≤ 12) := fun z => hok ⟨hg, z⟩
        rw [if_pos (by rw [hg])]
        cases hA : alB (syB I) L with
        | false => simp only [sp_k hN, Option.bind_some, reduceIte, if_true, if_false, Bool.false_eq_true, ck_tt, mw_s hm, v_qS, mo_k hm, mw_f hm, mo_r1 hm, mw_gates hm, mw_walkers hm, bdX_l, bdX_r, m_thr0, m_thr1 hm, i32_10, i32_00, sp_r0 hN, sp_r1 hN, sp_r2 hN, sp_r3 hN, sp_r4 hN, sp_r5 hN, sp_r6 hN, sp_r7 hN, sp_r8 hN, sp_r9 hN]; exact fin
        | true =>
          simp only [sp_k hN, Option.bind_some, reduceIte, if_true, if_false, Bool.false_eq_true, ck_tt, mw_s hm, v_qS, mo_k hm, mw_f hm, mo_r1 hm, mw_gates hm, mw_walkers hm, bdX_l, bdX_r, m_thr0, m_thr1 hm, i32_10, i32_00, sp_r0 hN, sp_r1 hN, sp_r2 hN, sp_r3 hN, sp_r4 hN, sp_r5 hN, sp_r6 hN, sp_r7 hN, sp_r8 hN, sp_r9 hN]
          by_cases z : x < 0
          · simp only [z, Option.bind_some, reduceIte, if_true, if_false, Bool.false_eq_true, ck_tt]; exact fin
          · have : (x ≤ 12) = False := eq_false fun q => hx ⟨Int32.not_lt.mp z, q⟩
            simp only [z, this, Option.bind_some, reduceIte, if_true, if_false, Bool.false_eq_true, ck_tt]; exact fin
      · rw [if_neg (fun z => hg ((nI_eq (by omega) (by omega)).mp z))]
        simp only [sp_k hN, Option.bind_some, reduceIte, if_true, if_false, Bool.false_eq_true, ck_tt, mw_s hm, v_qS, mo_k hm, mw_f hm, mo_r1 hm, mw_gates hm, mw_walkers hm, bdX_l, bdX_r, m_thr0, m_thr1 hm, i32_10, i32_00, sp_r0 hN, sp_r1 hN, sp_r2 hN, sp_r3 hN, sp_r4 hN, sp_r5 hN, sp_r6 hN, sp_r7 hN, sp_r8 hN, sp_r9 hN]; exact fin
    · intro i b hi
      have hb : syB I i = decide (bxV I i = 84 ∨ bxV I i = 70 ∨ bxV I i = 63) := rfl
      simp only [sp_k hN, Option.bind_some, reduceIte, if_true, if_false, Bool.false_eq_true, ck_tt, mw_s hm, v_qS, mo_k hm, mw_f hm, mo_r1 hm, mw_gates hm, mw_walkers hm, bdX_l, bdX_r, m_thr0, m_thr1 hm, i32_10, i32_00, sp_r0 hN, sp_r1 hN, sp_r2 hN, sp_r3 hN, sp_r4 hN, sp_r5 hN, sp_r6 hN, sp_r7 hN, sp_r8 hN, sp_r9 hN, tJ_10, cm_leF hi (show L < 2 ^ 31 by omega), mo_r7 hm, mo_ab hm (rfl : nI i = nI i) (show i < 400 by omega), tJ_33 ht hi, say_tst (ht.at hi).1, hb]
      cases b <;> cases decide (bxV I i = 84 ∨ bxV I i = 70 ∨ bxV I i = 63) <;> rfl
    · intro x
      simp only [sp_k hN, Option.bind_some, reduceIte, if_true, if_false, Bool.false_eq_true, ck_tt, mw_s hm, v_qS, mo_k hm, mw_f hm, mo_r1 hm, mw_gates hm, mw_walkers hm, bdX_l, bdX_r, m_thr0, m_thr1 hm, i32_10, i32_00, sp_r0 hN, sp_r1 hN, sp_r2 hN, sp_r3 hN, sp_r4 hN, sp_r5 hN, sp_r6 hN, sp_r7 hN, sp_r8 hN, sp_r9 hN, tJ_10, cm_leT (Nat.le_refl L) (show L < 2 ^ 31 by omega)]
end LIE
