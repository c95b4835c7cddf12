/-! a number read by the class -/
section NUMB
variable {k n L q s e r t : Nat} {b st E : Nat → Nat} {I I' : IM} {N N' : NM} {M M' : Mem}
theorem dg_nn : ∀ i, i ≤ 4 → (∀ j, j < i → 48 ≤ b (s + j) ∧ b (s + j) ≤ 57) → ∃ v, v < 10 ^ i ∧ dgV b s i = nI v
  | 0, _, _ => ⟨0, by omega, rfl⟩
  | i + 1, hi, h => by
    obtain ⟨v, hv, ev⟩ := dg_nn i (by omega) fun j hj => h j (by omega)
    have hd := h i (by omega)
    have h4 : 10 ^ i ≤ 10 ^ 3 := Nat.pow_le_pow_right (by omega) (by omega)
    refine ⟨10 * v + (b (s + i) - 48), by rw [Nat.pow_succ]; omega, ?_⟩
    show ((10 : Int32) * dgV b s i + nI (b (s + i))) - 48 = _
    rw [ev, show (10 : Int32) * nI v = nI (10 * v) from pk_mul 10 v, nI_add, show (48 : Int32) = nI 48 from rfl, ← Int32.toInt_inj, pk_sub_toInt (by omega) (by omega), nI_toInt (by omega)]
    omega
theorem c_number (hs : Shp N) (h : TC N I b L n st E k) {d : Nat} (hd : d ≤ 4) (top : Int32) : F_Text_number 1003 (nI d) top (I, N) = some (fgN b (st k) (fE b st E n k) d top, if 0 ≤ fgN b (st k) (fE b st E n k) d top then (u2 I 1003 6 (nI (k + 1)), N) else (I, N)) := by
  obtain ⟨x0, x1, x2, x3, x4, x5, ⟨x6, x7⟩, ⟨x8, x9⟩, ⟨x10, x11⟩⟩ := hs.2.2.1
  obtain ⟨t0, t1, t2, t3⟩ := hs.2.1
  have hl := h.n_le
  have hr := h.rng
  have hcopy := h
  obtain ⟨⟨hL, hb⟩, hT, ⟨h3, h4, h5⟩, h6, h7, h8, h9⟩ := h
  have neg : ((0 : Int32) ≤ -1) = False := eq_false (by decide)
  unfold F_Text_number
  simp only [v_fR x0, v_fI x0, v_sI x0, x1, x3, x4, x5, h3, h4, Option.bind_some, reduceIte, if_true, if_false, Bool.false_eq_true, ck_tt, v_aI x8 x9 (rfl : nI k = nI k) (show k < 401 by omega) (by omega), v_aI x10 x11 (rfl : nI k = nI k) (show k < 401 by omega) (by omega), v_aR x6 x7 (rfl : nI k = nI k) (show k < 401 by omega) (by omega), h6 k h5, ck_tt (show kR N 1004 k ≤ 36 ∧ 1 ≤ 36 from ⟨hr.2, by omega⟩)]
  by_cases hk : k < n
  · obtain ⟨⟨w1, w2, w3⟩, w4, -⟩ := hT.2.2 k hk
    have hn := tk_num (h8 k hk) w1
    by_cases hd2 : srt (b (st k)) = 2
    · have ef : fE b st E n k = E (k + 1) := by unfold fE; rw [if_pos ⟨hk, hd2⟩]
      have et : kR N 1004 k = 1 := hn.mpr hd2
      have sub : nI (E (k + 1)) - nI (st k) = nI (E (k + 1) - st k) := by rw [← Int32.toInt_inj, pk_sub_toInt (by omega) (by omega), nI_toInt (by omega)]; omega
      rw [ef]
      simp only [et, h7 k hk, sub, Option.bind_some, reduceIte, if_true, if_false, Bool.false_eq_true, ck_tt]
      unfold fgN
      have ne : E (k + 1) ≠ st k := by omega
      by_cases c2 : d < E (k + 1) - st k
      · simp only [cm_ltT c2 (show E (k + 1) - st k < 2 ^ 31 by omega), c2, ne, true_or, or_true, Option.bind_some, reduceIte, if_true, if_false, Bool.false_eq_true, ck_tt, neg]
      · have hdg : ∀ j, j < E (k + 1) - st k → 48 ≤ b (st k + j) ∧ b (st k + j) ≤ 57 := fun j hj => srt_2 _ (hb _ (by omega)).1 (by rw [w4 _ (by omega) (by omega)]; exact hd2)
        obtain ⟨v, hv, ev⟩ := dg_nn (E (k + 1) - st k) (by omega) hdg
        have hv4 : 10 ^ (E (k + 1) - st k) ≤ 10 ^ 4 := Nat.pow_le_pow_right (by omega) (by omega)
        simp only [cm_ltF (show E (k + 1) - st k ≤ d by omega) (show d < 2 ^ 31 by omega), cm_ltT hk (show n < 2 ^ 31 by omega), c2, ne, false_or, Option.bind_some, reduceIte, if_true, if_false, Bool.false_eq_true, ck_tt]
        have loop : loopN LIM (fun s17 : Int32 × Int32 => if nI (E (k + 1)) ≤ s17.2 then (some (.inr (s17.1))) else ((aI (I, N) 1002 s17.2).bind fun v20 => some (.inl (((((10 : Int32) * s17.1) + v20) - (48 : Int32)), (s17.2 + (1 : Int32)))))) ((0 : Int32), nI (st k)) = some (dgV b (st k) (E (k + 1) - st k)) := by
          refine E1.eq (lq1 (fun i z => z = (dgV b (st k) i, nI (st k + i))) _ (E (k + 1) - st k) (lim_lt (by omega)) (Nat.zero_le _) rfl ?_ ?_)
          · rintro i z hi rfl
            simp only [cm_leF (show st k + i < E (k + 1) by omega) (show E (k + 1) < 2 ^ 31 by omega), Option.bind_some, reduceIte, if_true, if_false, Bool.false_eq_true, ck_tt, v_aI t2 t3 (rfl : nI (st k + i) = nI (st k + i)) (show st k + i < 400 by omega) (by omega), (hb (st k + i) (by omega)).2]
            exact E1.ok (Prod.ext rfl (nI_1 (st k + i)))
          · rintro z rfl
            rw [show st k + (E (k + 1) - st k) = E (k + 1) by omega]
            simp only [cm_leT (Nat.le_refl (E (k + 1))) (show E (k + 1) < 2 ^ 31 by omega), Option.bind_some, reduceIte, if_true, if_false, Bool.false_eq_true, ck_tt]
            exact E1.ok rfl
        rw [loop]
        have nn : (dgV b (st k) (E (k + 1) - st k) < 0) = False := by rw [ev]; exact nI_lt0 (by omega)
        have nn' : ((0 : Int32) ≤ dgV b (st k) (E (k + 1) - st k)) = True := by rw [ev]; exact eq_true (nI_pos' (by omega))
        simp only [Option.bind_some, reduceIte, if_true, if_false, Bool.false_eq_true, ck_tt, nn, false_or]
        by_cases c4 : dgV b (st k) (E (k + 1) - st k) ≤ top
        · simp only [c4, not_true_eq_false, Option.bind_some, reduceIte, if_true, if_false, Bool.false_eq_true, ck_tt, nn', show nI k + (1 : Int32) = nI (k + 1) from nI_add k 1]
        · simp only [c4, not_false_eq_true, Option.bind_some, reduceIte, if_true, if_false, Bool.false_eq_true, ck_tt, neg]
    · have ef : fE b st E n k = st k := by unfold fE; rw [if_neg (fun z => hd2 z.2)]
      have et : (kR N 1004 k = 1) = False := eq_false fun z => hd2 (hn.mp z)
      rw [ef]
      unfold fgN
      simp only [et, true_or, Option.bind_some, reduceIte, if_true, if_false, Bool.false_eq_true, ck_tt, neg]
  · have ek : k = n := by omega
    have ef : fE b st E n k = st k := by unfold fE; rw [if_neg (fun z => hk z.1)]
    have et : (kR N 1004 k = 1) = False := eq_false (by rw [ek, h9]; omega)
    rw [ef]
    unfold fgN
    simp only [et, true_or, Option.bind_some, reduceIte, if_true, if_false, Bool.false_eq_true, ck_tt, neg]
end NUMB
