/-! a price, a gate, a walker *)-/
section LINE2
variable {k k0 n L q s e r t i c d g w p : Nat} {b st E : Nat → Nat} {I I' : IM} {N N' K : NM} {J J' : IM} {W W' : Nat → Int32} {x y z : Int32}
theorem l_price (h : BT N I J b L n st E k0) (hs : Shp N) (hm : MN K) (hW : WR 1040 I W g w) (hk : k0 < n) (r : Nat) :
    E2 (F_RoadReader_readPrice 1073 (at6 I k0, N)) (F_Mo_readPrice 1528 (rowI (pt J (E (k0 + 1)) r) 1529 W, K)) (LNr N I K J W b L n st E k0) := by
  obtain ⟨q0, r0, r1⟩ := hs.2.2.2.2.1
  have kt : kS N 1003 = 16 := hs.2.2.1.1
  have hn : WN N 1040 := hs.2.2.2.1.2.1
  have h8 := hW.w8
  have h12 := hW.g12
  have neg : ((0 : Int32) ≤ -1) = False := eq_false (by decide)
  have neg' : ((-1 : Int32) < 0) = True := eq_true (by decide)
  unfold F_RoadReader_readPrice F_Mo_readPrice
  simp only [v_fR q0, r0, r1, v_qS, kt, q0, Option.bind_some, reduceIte, if_true, if_false, Bool.false_eq_true, ck_tt, a_adv h hs hk, a_walker h hs (show k0 + 1 ≤ n by omega) hW.wa, b_num h hm (h.atE hk), v_qS, mo_k hm, mw_f hm, mo_r1 hm, mw_gates hm, mw_walkers hm, hW.wb, hW.gb]
  by_cases hv : 0 ≤ nuV b st E n (k0 + 1) 3 (nI w - 1)
  · obtain ⟨v, v1, v2, v3⟩ := nuV_val (h.mid (h.atE hk) 0).1 (show 3 ≤ 4 by omega) hv
    have hA := h.atF hv
    have hvw := le_pred v1 (by omega) v3
    have hv8 : v < 8 := by omega
    simp only [hv, q0, Option.bind_some, reduceIte, if_true, if_false, Bool.false_eq_true, ck_tt, a_gate h hs hA.1 hW.ga, b_num h hm hA, v_qS, mo_k hm, mw_f hm, mo_r1 hm, mw_gates hm, mw_walkers hm, hW.gb]
    by_cases hu : 0 ≤ nuV b st E n (k0 + 1 + 1) 3 (nI g - 1)
    · obtain ⟨u, u1, u2, u3⟩ := nuV_val (h.mid hA 0).1 (show 3 ≤ 4 by omega) hu
      have hA2 := h.atF hu
      have hug := le_pred u1 (by omega) u3
      have hu12 : u < 12 := by omega
      simp only [hu, Option.bind_some, reduceIte, if_true, if_false, Bool.false_eq_true, ck_tt, v_fR q0, r0, r1, v_qS, kt, a_num h hs hA2.1 (show 3 ≤ 4 by omega) (show (3 : Int32) = nI 3 from rfl), b_num h hm hA2, v_qS, mo_k hm, mw_f hm, mo_r1 hm, mw_gates hm, mw_walkers hm]
      by_cases hy : 0 ≤ nuV b st E n (k0 + 1 + 1 + 1) 3 99
      · obtain ⟨y, y1, y2, y3⟩ := nuV_val (h.mid hA2 0).1 (show 3 ≤ 4 by omega) hy
        have hA3 := h.atF hy
        have hy99 := nu_99 (m := 99) y1 (by omega) y3
        simp only [v2, u2, y2, show ((0 : Int32) ≤ nI y) = True from eq_true (nI_pos' (by omega)), nI_lt0 (show y < 2 ^ 31 by omega), Option.bind_some, reduceIte, if_true, if_false, Bool.false_eq_true, ck_tt, v_fR q0, r1, v_qS, wa_k hn, wa_f hn, wa_s hn, wa_r1 hn, wa_r2 hn, wa_r3 hn, wa_r5 hn, wa_r6 hn, wa_r7 hn, wa_r8 hn, wa_r9 hn, wa_r10 hn, wa_r11 hn, wa_w4 hn hv8, wa_w5 hn hv8, wa_w6 hn hv8, wa_w7 hn hv8, wa_w8 hn hv8, wa_t4 hn hv8, wa_t5 hn hv8, wa_t6 hn hv8, wa_t7 hn hv8, wa_t8 hn hv8, wa_q9 hn hv8, wa_q18 hn hv8, wa_a9 hn hv8 hu12, wa_a18 hn hv8 hu12, wa_b9 hn hv8 hu12, wa_b18 hn hv8 hu12, v_qS, mo_k hm, mw_f hm, mo_r1 hm, mw_gates hm, mw_walkers hm, mw_ofp hm hv8 hu12, mw_ofs hm hv8 hu12, mw_stp hm hv8 hu12, mw_sts hm hv8 hu12]
        exact E2.ok (LNr.yes h hA3 (by omega) (fun c hc => u2_o _ _ _ _ (by omega)) (FX.id.upd (by omega)) ((hW.at6 _).price hvw hug hy99) hW.gb (Nat.le_refl _))
      · have hy' : (nuV b st E n (k0 + 1 + 1 + 1) 3 99 < 0) = True := eq_true (Int32.not_le.mp hy)
        simp only [hy, hy', Option.bind_some, reduceIte, if_true, if_false, Bool.false_eq_true, ck_tt]
        exact E2.ok (LNr.no h hA2.1 rfl FX.id)
    · simp only [hu, neg, neg', Option.bind_some, reduceIte, if_true, if_false, Bool.false_eq_true, ck_tt]
      exact E2.ok (LNr.no h hA.1 rfl FX.id)
  · simp only [hv, neg, neg', Option.bind_some, reduceIte, if_true, if_false, Bool.false_eq_true, ck_tt]
    exact E2.ok (LNr.no h (by omega) rfl FX.id)
theorem ix_g0 (g : Nat) : (9 : Int32) + 3 * nI g = nI (9 + 3 * g) := by
  rw [show (3 : Int32) * nI g = nI (3 * g) from pk_mul 3 g]; exact nI_add 9 (3 * g)
/-- the other side's new gate -/
theorem m_putGate (hm : MN K) (hg : g < 12) (eg : W 0 = nI g) (M : Int32 × Int32) : ((fR (rowI J 1529 W, K) 1528 19 1).bind fun v34 => (tI (rowI J 1529 W, K) v34 ((9 : Int32) + ((3 : Int32) * nI g)) x).bind fun m35 => (fR m35 1528 19 1).bind fun v36 => (tI m35 v36 (((9 : Int32) + ((3 : Int32) * nI g)) + (1 : Int32)) y).bind fun m37 => (fR m37 1528 19 1).bind fun v38 => (tI m37 v38 (((9 : Int32) + ((3 : Int32) * nI g)) + (2 : Int32)) z).bind fun m39 => (fR m39 1528 19 1).bind fun v40 => (aI m39 v40 (0 : Int32)).bind fun v41 => (tI m39 v40 (0 : Int32) (v41 + (1 : Int32))).bind fun m42 => some ((1 : Int32), m42)) = some ((1 : Int32), (rowI J 1529 (gtW W g x y z), K)) := by
  simp only [ix_g0, show nI (9 + 3 * g) + (1 : Int32) = nI (9 + 3 * g + 1) from nI_add _ 1, show nI (9 + 3 * g) + (2 : Int32) = nI (9 + 3 * g + 2) from nI_add _ 2, Option.bind_some, reduceIte, if_true, if_false, Bool.false_eq_true, ck_tt, v_qS, mo_k hm, mw_f hm, mo_r1 hm, mw_gates hm, mw_walkers hm, mw_t hm (show nI (9 + 3 * g) = nI (9 + 3 * g) from rfl) (show 9 + 3 * g < 2038 by omega), mw_t hm (show nI (9 + 3 * g + 1) = nI (9 + 3 * g + 1) from rfl) (show 9 + 3 * g + 1 < 2038 by omega), mw_t hm (show nI (9 + 3 * g + 2) = nI (9 + 3 * g + 2) from rfl) (show 9 + 3 * g + 2 < 2038 by omega), mw_t hm (show (0 : Int32) = nI 0 from rfl) (show 0 < 2038 by omega), mw_a hm (show (0 : Int32) = nI 0 from rfl) (show 0 < 2038 by omega), pk_un (show 0 ≠ 9 + 3 * g by omega), pk_un (show 0 ≠ 9 + 3 * g + 1 by omega), pk_un (show 0 ≠ 9 + 3 * g + 2 by omega), eg, show nI g + (1 : Int32) = nI (g + 1) from nI_add g 1]
  rfl
theorem FX.gate (hg : g < 12) : FX W (gtW W g x y z) := ⟨⟨gtW_o (by omega) (by omega), fun j hj => gtW_o (by omega) (by omega)⟩, gtW_o (by omega) (by omega)⟩
/-- the kind of a gate, of both -/
theorem m_kind (h : BT N I J b L n st E k0) (hm : MN K) (hA : AT st E n k p) (r : Nat) :
    ((F_Mo_passes 1528 133 (rowI (pt J p r) 1529 W, K)).bind fun v6 => (if v6.1 = 0 then ((ck (qS v6.2 1528 = 19)).bind fun h10 => (F_Mo_passes 1528 134 v6.2).bind fun v9 => if v9.1 = 0 then ((ck (qS v9.2 1528 = 19)).bind fun h13 => (F_Mo_passes 1528 135 v9.2).bind fun v12 => if v12.1 = 0 then ((ck (qS v12.2 1528 = 19)).bind fun h16 => (F_Mo_passes 1528 136 v12.2).bind fun v15 => if v15.1 = 0 then ((ck (qS v15.2 1528 = 19)).bind fun h19 => (F_Mo_passes 1528 137 v15.2).bind fun v18 => if v18.1 = 0 then (some ((0 : Int32), v18.2)) else (some ((5 : Int32), v18.2))) else (some ((4 : Int32), v15.2))) else (some ((3 : Int32), v12.2))) else (some ((2 : Int32), v9.2))) else (some ((1 : Int32), v6.2)) : Option (Int32 × Mem)))
    = some (nI (kindV (kR N 1004 k)), (rowI (pt J (if kindV (kR N 1004 k) = 0 then st k else E (k + 1)) (st k)) 1529 W, K)) := by
  have hS := h.atS hA.1
  have p1 := b_word (W := W) (q := r) h hm hA (show (133, 11) ∈ wdT by decide)
  have p2 := b_word (W := W) (q := st k) h hm hS (show (134, 12) ∈ wdT by decide)
  have p3 := b_word (W := W) (q := st k) h hm hS (show (135, 13) ∈ wdT by decide)
  have p4 := b_word (W := W) (q := st k) h hm hS (show (136, 14) ∈ wdT by decide)
  have p5 := b_word (W := W) (q := st k) h hm hS (show (137, 15) ∈ wdT by decide)
  simp only [Nat.reduceAdd] at p1 p2 p3 p4 p5
  unfold kindV
  by_cases c : kR N 1004 k = 12
  · simp only [c, Option.bind_some, reduceIte, if_true, if_false, Bool.false_eq_true, ck_tt] at p1
    simp only [v_qS, mo_k hm, mw_f hm, mo_r1 hm, mw_gates hm, mw_walkers hm, Option.bind_some, reduceIte, if_true, if_false, Bool.false_eq_true, ck_tt, p1, c, i32_10]; rfl
  simp only [c, Option.bind_some, reduceIte, if_true, if_false, Bool.false_eq_true, ck_tt] at p1
  by_cases c2 : kR N 1004 k = 13
  · simp only [c2, Option.bind_some, reduceIte, if_true, if_false, Bool.false_eq_true, ck_tt] at p2
    simp only [v_qS, mo_k hm, mw_f hm, mo_r1 hm, mw_gates hm, mw_walkers hm, Option.bind_some, reduceIte, if_true, if_false, Bool.false_eq_true, ck_tt, p1, p2, c, c2, i32_10]; rfl
  simp only [c2, Option.bind_some, reduceIte, if_true, if_false, Bool.false_eq_true, ck_tt] at p2
  by_cases c3 : kR N 1004 k = 14
  · simp only [c3, Option.bind_some, reduceIte, if_true, if_false, Bool.false_eq_true, ck_tt] at p3
    simp only [v_qS, mo_k hm, mw_f hm, mo_r1 hm, mw_gates hm, mw_walkers hm, Option.bind_some, reduceIte, if_true, if_false, Bool.false_eq_true, ck_tt, p1, p2, p3, c, c2, c3, i32_10]; rfl
  simp only [c3, Option.bind_some, reduceIte, if_true, if_false, Bool.false_eq_true, ck_tt] at p3
  by_cases c4 : kR N 1004 k = 15
  · simp only [c4, Option.bind_some, reduceIte, if_true, if_false, Bool.false_eq_true, ck_tt] at p4
    simp only [v_qS, mo_k hm, mw_f hm, mo_r1 hm, mw_gates hm, mw_walkers hm, Option.bind_some, reduceIte, if_true, if_false, Bool.false_eq_true, ck_tt, p1, p2, p3, p4, c, c2, c3, c4, i32_10]; rfl
  simp only [c4, Option.bind_some, reduceIte, if_true, if_false, Bool.false_eq_true, ck_tt] at p4
  by_cases c5 : kR N 1004 k = 16
  · simp only [c5, Option.bind_some, reduceIte, if_true, if_false, Bool.false_eq_true, ck_tt] at p5
    simp only [v_qS, mo_k hm, mw_f hm, mo_r1 hm, mw_gates hm, mw_walkers hm, Option.bind_some, reduceIte, if_true, if_false, Bool.false_eq_true, ck_tt, p1, p2, p3, p4, p5, c, c2, c3, c4, c5, i32_10]; rfl
  simp only [c5, Option.bind_some, reduceIte, if_true, if_false, Bool.false_eq_true, ck_tt] at p5
  simp only [v_qS, mo_k hm, mw_f hm, mo_r1 hm, mw_gates hm, mw_walkers hm, Option.bind_some, reduceIte, if_true, if_false, Bool.false_eq_true, ck_tt, p1, p2, p3, p4, p5, c, c2, c3, c4, c5]; rfl
theorem m_kindF {β : Type} (F : Int32 × Mem → Option β) (h : BT N I J b L n st E k0) (hm : MN K) (hA : AT st E n k p) (r : Nat) :
    ((F_Mo_passes 1528 133 (rowI (pt J p r) 1529 W, K)).bind fun v6 => (if v6.1 = 0 then ((ck (qS v6.2 1528 = 19)).bind fun h10 => (F_Mo_passes 1528 134 v6.2).bind fun v9 => if v9.1 = 0 then ((ck (qS v9.2 1528 = 19)).bind fun h13 => (F_Mo_passes 1528 135 v9.2).bind fun v12 => if v12.1 = 0 then ((ck (qS v12.2 1528 = 19)).bind fun h16 => (F_Mo_passes 1528 136 v12.2).bind fun v15 => if v15.1 = 0 then ((ck (qS v15.2 1528 = 19)).bind fun h19 => (F_Mo_passes 1528 137 v15.2).bind fun v18 => if v18.1 = 0 then (some ((0 : Int32), v18.2)) else (some ((5 : Int32), v18.2))) else (some ((4 : Int32), v15.2))) else (some ((3 : Int32), v12.2))) else (some ((2 : Int32), v9.2))) else (some ((1 : Int32), v6.2)) : Option (Int32 × Mem)).bind F)
    = F (nI (kindV (kR N 1004 k)), (rowI (pt J (if kindV (kR N 1004 k) = 0 then st k else E (k + 1)) (st k)) 1529 W, K)) := by
  have := congrArg (fun x => x.bind F) (m_kind (W := W) h hm hA r)
  simp only [Option.bind_assoc, Option.bind_some] at this
  exact this
theorem kindV_lt (r : Nat) : kindV r ≤ 5 := by
  unfold kindV
  by_cases c : r = 12
  · rw [if_pos c]; omega
  rw [if_neg c]
  by_cases c : r = 13
  · rw [if_pos c]; omega
  rw [if_neg c]
  by_cases c : r = 14
  · rw [if_pos c]; omega
  rw [if_neg c]
  by_cases c : r = 15
  · rw [if_pos c]; omega
  rw [if_neg c]
  by_cases c : r = 16
  · rw [if_pos c]; omega
  rw [if_neg c]; omega
theorem kindV_2 : kindV 2 = 0 := rfl
theorem l_gate (h : BT N I J b L n st E k0) (hs : Shp N) (hm : MN K) (hW : WR 1040 I W g w) (hk : k0 < n) :
    E2 (F_RoadReader_readGate 1073 (at6 I k0, N)) (F_Mo_readGate 1528 (rowI (pt J (E (k0 + 1)) (st k0)) 1529 W, K)) (LNr N I K J W b L n st E k0) := by
  obtain ⟨q0, r0, r1⟩ := hs.2.2.2.2.1
  have kt : kS N 1003 = 16 := hs.2.2.1.1
  have hn : WN N 1040 := hs.2.2.2.1.2.1
  have h8 := hW.w8
  have h12 := hW.g12
  have neg : ((0 : Int32) ≤ -1) = False := eq_false (by decide)
  have neg' : ((-1 : Int32) < 0) = True := eq_true (by decide)
  unfold F_RoadReader_readGate F_Mo_readGate
  simp only [v_fR q0, r0, r1, v_qS, kt, q0, Option.bind_some, reduceIte, if_true, if_false, Bool.false_eq_true, ck_tt, v_qS, wa_k hn, wa_f hn, wa_s hn, wa_r1 hn, wa_r2 hn, wa_r3 hn, wa_r5 hn, wa_r6 hn, wa_r7 hn, wa_r8 hn, wa_r9 hn, wa_r10 hn, wa_r11 hn, at6_r (show 1040 ≠ 1003 by omega), hW.ga, hW.gb, v_qS, mo_k hm, mw_f hm, mo_r1 hm, mw_gates hm, mw_walkers hm, show (12 : Int32) = nI 12 from rfl, nI_eq (show g < 2 ^ 31 by omega) (show 12 < 2 ^ 31 by omega)]
  by_cases hg : g = 12
  · simp only [hg, show (nI 12 < nI 12) = False from cm_ltF (Nat.le_refl _) (by omega), Option.bind_some, reduceIte, if_true, if_false, Bool.false_eq_true, ck_tt]
    exact E2.ok (LNr.no h (by omega) rfl FX.id)
  have hg12 : g < 12 := by omega
  simp only [hg, cm_ltT hg12 (show 12 < 2 ^ 31 by omega), Option.bind_some, reduceIte, if_true, if_false, Bool.false_eq_true, ck_tt, a_adv h hs hk, v_fR q0, r0, v_qS, kt, a_num h hs (show k0 + 1 ≤ n by omega) (show 3 ≤ 4 by omega) (show (3 : Int32) = nI 3 from rfl), b_num h hm (h.atE hk)]
  by_cases hv : ¬ 0 ≤ nuV b st E n (k0 + 1) 3 99
  · simp only [hv, Option.bind_some, reduceIte, if_true, if_false, Bool.false_eq_true, ck_tt]
    exact E2.ok (LNr.no h (by omega) rfl FX.id)
  have hv := Decidable.not_not.mp hv
  obtain ⟨v, v1, v2, v3⟩ := nuV_val (h.mid (h.atE hk) 0).1 (show 3 ≤ 4 by omega) hv
  have hA := h.atF hv
  have hv99 := nu_99 (m := 99) v1 (by omega) v3
  have hrng := (h.1.at (q := k0 + 1 + 1) hA.1).rng
  simp only [hv, Option.bind_some, reduceIte, if_true, if_false, Bool.false_eq_true, ck_tt, v_fR q0, r0, v_qS, kt, a_tok h hs hA.1, c_kind hrng.1 hrng.2, mo_k hm]
  rw [m_kindF _ h hm hA]
  have hlt := kindV_lt (kR N 1004 (k0 + 1 + 1))
  generalize hT : kindV (kR N 1004 (k0 + 1 + 1)) = t at hlt ⊢
  have hkn : t ≠ 0 → k0 + 1 + 1 < n := fun z => by
    refine Nat.lt_of_le_of_ne hA.1 fun y => z ?_
    rw [← hT, y, h.1.2.2.2.2.2.2]; rfl
  have eq0 : (nI t = 0) = (t = 0) := propext (nI_eq (b := 0) (by omega) (by omega))
  have eq1 : (nI t = 1) = (t = 1) := propext (nI_eq (b := 1) (by omega) (by omega))
  have eq4 : (nI t = 4) = (t = 4) := propext (nI_eq (b := 4) (by omega) (by omega))
  have e0 : ∀ k, at6 I k 1040 0 = nI g := fun k => by rw [at6_r (by omega)]; exact hW.ga
  have done : ∀ k p r z, AT st E n k p → k0 < k → (t = 1 → ∃ o, o < g ∧ z = nI o) → LNr N I K J W b L n st E k0 (1, (gtI 1040 (at6 I k) g (nI t) (nI v) z, N)) (1, (rowI (pt J p r) 1529 (gtW W g (nI t) (nI v) z), K)) := fun k p r z hA hk ho =>
    LNr.yes h hA hk (fun c hc => funext fun j => gtI_o (by omega) (by omega)) (FX.gate hg12) ((hW.at6 k).gate hg12 hlt hv99 ho) hW.gb (Nat.le_succ _)
  simp only [eq0, eq1, eq4, v2]
  by_cases c0 : t = 0
  · subst c0
    simp only [Option.bind_some, reduceIte, if_true, if_false, Bool.false_eq_true, ck_tt, show (0 = 1) = False from eq_false (by omega), show (0 = 4) = False from eq_false (by omega), neg, v_fR q0, r1, v_qS, wa_k hn, c_addGate hn (e0 _) hg12, m_putGate hm hg12 hW.gb (0, 0)]
    exact E2.ok (done (k0 + 1 + 1) _ _ (-1) (h.atS hA.1) (by omega) (fun z => by omega))
  have hk2 := hkn c0
  by_cases c1 : t = 1
  · subst c1
    simp only [Option.bind_some, reduceIte, if_true, if_false, Bool.false_eq_true, ck_tt, show (1 = 0) = False from eq_false (by omega), show (1 = 4) = False from eq_false (by omega), a_adv h hs hk2, v_qS, q0, mo_k hm, a_gate h hs (show k0 + 1 + 1 + 1 ≤ n by omega) hW.ga, b_num h hm (h.atE hk2)]
    by_cases hu : 0 ≤ nuV b st E n (k0 + 1 + 1 + 1) 3 (nI g - 1)
    · obtain ⟨u, u1, u2, u3⟩ := nuV_val (h.mid (h.atE hk2) 0).1 (show 3 ≤ 4 by omega) hu
      have hA2 := h.atF hu
      simp only [hu, Option.bind_some, reduceIte, if_true, if_false, Bool.false_eq_true, ck_tt, v_fR q0, r1, v_qS, wa_k hn, c_addGate hn (e0 _) hg12, m_putGate hm hg12 hW.gb (0, 0)]
      exact E2.ok (done _ _ _ _ hA2 (by omega) (fun _ => ⟨u, le_pred u1 (by omega) u3, u2⟩))
    · simp only [hu, Option.bind_some, reduceIte, if_true, if_false, Bool.false_eq_true, ck_tt]
      exact E2.ok (LNr.no h (by omega) rfl FX.id)
  by_cases c4 : t = 4
  · subst c4
    simp only [Option.bind_some, reduceIte, if_true, if_false, Bool.false_eq_true, ck_tt, show (4 = 0) = False from eq_false (by omega), show (4 = 1) = False from eq_false (by omega), a_adv h hs hk2, v_fR q0, r0, v_qS, kt, mo_k hm, a_num h hs (show k0 + 1 + 1 + 1 ≤ n by omega) (show 3 ≤ 4 by omega) (show (3 : Int32) = nI 3 from rfl), b_num h hm (h.atE hk2)]
    by_cases hu : 0 ≤ nuV b st E n (k0 + 1 + 1 + 1) 3 7
    · have hA2 := h.atF hu
      simp only [hu, Option.bind_some, reduceIte, if_true, if_false, Bool.false_eq_true, ck_tt, v_fR q0, r1, v_qS, wa_k hn, c_addGate hn (e0 _) hg12, m_putGate hm hg12 hW.gb (0, 0)]
      exact E2.ok (done _ _ _ _ hA2 (by omega) (fun z => by omega))
    · simp only [hu, Option.bind_some, reduceIte, if_true, if_false, Bool.false_eq_true, ck_tt]
      exact E2.ok (LNr.no h (by omega) rfl FX.id)
  simp only [Option.bind_some, reduceIte, if_true, if_false, Bool.false_eq_true, ck_tt, c0, c1, c4, neg, a_adv h hs hk2, v_fR q0, r1, v_qS, wa_k hn, c_addGate hn (e0 _) hg12, m_putGate hm hg12 hW.gb (0, 0)]
  exact E2.ok (done _ _ _ _ (h.atE hk2) (by omega) (fun z => absurd z c1))
end LINE2
