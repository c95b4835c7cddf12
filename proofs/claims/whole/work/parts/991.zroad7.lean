/-! the lines of a road -/
section LINE
variable {k k0 n L q s e r t i c d g w p : Nat} {b st E : Nat → Nat} {I I' : IM} {N N' K : NM} {J J' : IM} {W W' : Nat → Int32} {x y z : Int32}
/-- what a line leaves of the other side's world -/
def FX (W W' : Nat → Int32) : Prop := FW W W' ∧ W' 2 = W 2
theorem FX.id : FX W W := ⟨FW.id, rfl⟩
theorem FX.trans {W2 : Nat → Int32} (h : FX W W') (h' : FX W' W2) : FX W W2 := ⟨h.1.trans h'.1, h'.2.trans h.2⟩
theorem FX.upd {x : Int32} (h : FX W W') (hk : k < 285 ∧ k ≠ 3 ∧ k ≠ 2) : FX W (upd W' k x) := ⟨h.1.upd ⟨hk.1, hk.2.1⟩, (pk_un (by omega)).trans h.2⟩
def LNr (N : NM) (I : IM) (K : NM) (J : IM) (W : Nat → Int32) (b : Nat → Nat) (L n : Nat) (st E : Nat → Nat) (k0 : Nat) (u v : Int32 × Mem) : Prop :=
  ∃ I' W' k p r, u.2 = (I', N) ∧ v.2 = (rowI (pt J p r) 1529 W', K) ∧ TC N I' b L n st E k ∧ (∀ c, c ≠ 1003 → ¬ (1040 ≤ c ∧ c < 1067) → I' c = I c) ∧ FX W W' ∧ ((u.1 = 0 ∧ v.1 = 0 ∧ r = st k) ∨ (u.1 = 1 ∧ v.1 = 1 ∧ AT st E n k p ∧ k0 < k ∧ ∃ g0 g w, W 0 = nI g0 ∧ g0 ≤ g ∧ WR 1040 I' W' g w))
theorem LNr.left {X Y : Option (Int32 × Mem)} (h : E2 X Y (LNr N I K J W b L n st E k0)) : E2 (X.bind fun v => (ck (v.1 = 0 ∨ v.1 = 1)).bind fun _ => some (v.1, v.2)) Y (LNr N I K J W b L n st E k0) := by
  obtain ⟨u, v, rfl, rfl, hl⟩ := h
  have hc : u.1 = 0 ∨ u.1 = 1 := by
    obtain ⟨_, _, _, _, _, _, _, _, _, _, h | h⟩ := hl
    · exact Or.inl h.1
    · exact Or.inr h.1
  rw [Option.bind_some, ck_tt hc]
  exact E2.ok hl
theorem LNr.right {X Y : Option (Int32 × Mem)} (h : E2 X Y (LNr N I K J W b L n st E k0)) : E2 X (Y.bind fun v => (ck (v.1 = 0 ∨ v.1 = 1)).bind fun _ => some (v.1, v.2)) (LNr N I K J W b L n st E k0) := by
  obtain ⟨u, v, rfl, rfl, hl⟩ := h
  have hc : v.1 = 0 ∨ v.1 = 1 := by
    obtain ⟨_, _, _, _, _, _, _, _, _, _, h | h⟩ := hl
    · exact Or.inl h.2.1
    · exact Or.inr h.2.1
  rw [Option.bind_some, ck_tt hc]
  exact E2.ok hl
theorem TC.rows (h : TC N I b L n st E k) (f : ∀ c, 1002 ≤ c → c ≤ 1006 → I' c = I c) : TC N I' b L n st E k := by
  obtain ⟨⟨hL, hb⟩, h2, h3, h6, h7, h8, h9⟩ := h
  refine ⟨⟨hL, fun k hk => ⟨(hb k hk).1, by rw [f 1002 (by omega) (by omega)]; exact (hb k hk).2⟩⟩, h2, by rw [f 1003 (by omega) (by omega)]; exact h3, by rw [f 1005 (by omega) (by omega)]; exact h6, by rw [f 1006 (by omega) (by omega)]; exact h7, h8, h9⟩
theorem LNr.no (h : BT N I J b L n st E k0) (hk : k ≤ n) (hr : r = st k) (fw : FX W W') : LNr N I K J W b L n st E k0 (0, (at6 I k, N)) (0, (rowI (pt J p r) 1529 W', K)) :=
  ⟨_, _, k, p, r, rfl, rfl, h.1.at hk, fun c hc _ => at6_r hc, fw, Or.inl ⟨rfl, rfl, hr⟩⟩
theorem LNr.yes (h : BT N I J b L n st E k0) (hA : AT st E n k p) (hk : k0 < k) (f : ∀ c, ¬ (1040 ≤ c ∧ c < 1067) → I' c = at6 I k c) (fw : FX W W') (hW : WR 1040 I' W' g w) {g0 : Nat} (e0 : W 0 = nI g0) (hg : g0 ≤ g) : LNr N I K J W b L n st E k0 (1, (I', N)) (1, (rowI (pt J p r) 1529 W', K)) :=
  ⟨_, _, k, p, r, rfl, rfl, (h.1.at hA.1).rows fun c c1 c2 => f c (by omega), fun c hc hc' => by rw [f c hc', at6_r hc], fw, Or.inr ⟨rfl, rfl, hA, hk, g0, g, w, e0, hg, hW⟩⟩
theorem WR.at6 (h : WR 1040 I W g w) (k : Nat) : WR 1040 (at6 I k) W g w := h.rows fun c c1 c2 => at6_r (by omega)
theorem b_wE (h : BT N I J b L n st E k0) (hk : k ≤ n) (hw : (r, i) ∈ wdT) (c : kR N 1004 k = i + 1) : wE b st E n k = E (k + 1) := by
  have := tok_wd (h.1.at hk) (wdT_at hw)
  rw [decide_eq_true ⟨h.klt hk c (wd_2 hw), c⟩] at this
  obtain ⟨w1, w2⟩ := Bool.and_eq_true_iff.mp (wdT_at hw)
  obtain ⟨w2, w3⟩ := Bool.and_eq_true_iff.mp w2
  exact (isW_lt this (of_decide_eq_true w2).1).2.2
theorem nu_99 {v : Nat} (hv : v < 10 ^ 4) {m : Nat} (hm : m ≤ 9999) (h : nI v ≤ nI m) : v ≤ m := by
  refine Nat.not_lt.mp fun z => ?_
  exact nI_ge z (by omega) h
theorem l_wear (h : BT N I J b L n st E k0) (hs : Shp N) (hm : MN K) (hW : WR 1040 I W g w) (hk : k0 < n) (r : Nat) :
    E2 (F_RoadReader_readWear 1073 (at6 I k0, N)) ((F_Mo_number 1528 (0 : Int32) (99 : Int32) (rowI (pt J (E (k0 + 1)) r) 1529 W, K)).bind fun v29 => (fR v29.2 1528 19 1).bind fun v30 => (tI v29.2 v30 (5 : Int32) v29.1).bind fun m31 => if v29.1 < 0 then (some ((0 : Int32), m31)) else (some ((1 : Int32), m31))) (LNr N I K J W b L n st E k0) := by
  obtain ⟨q0, r0, r1⟩ := hs.2.2.2.2.1
  have kt : kS N 1003 = 16 := hs.2.2.1.1
  have kw : kS N 1040 = 17 := wa_k hs.2.2.2.1.2.1
  unfold F_RoadReader_readWear
  simp only [v_fR q0, r0, r1, v_qS, kt, Option.bind_some, reduceIte, if_true, if_false, Bool.false_eq_true, ck_tt, a_adv h hs hk, a_num h hs (show k0 + 1 ≤ n by omega) (show 3 ≤ 4 by omega) (show (3 : Int32) = nI 3 from rfl), b_num h hm (h.atE hk), v_qS, mo_k hm, mw_f hm, mo_r1 hm, mw_gates hm, mw_walkers hm, mw_t hm (show (5 : Int32) = nI 5 from rfl) (show 5 < 2038 by omega)]
  by_cases hv : 0 ≤ nuV b st E n (k0 + 1) 3 99
  · have hv' : (nuV b st E n (k0 + 1) 3 99 < 0) = False := eq_false (Int32.not_lt.mpr hv)
    have hA := h.atF hv
    simp only [hv, hv', Option.bind_some, reduceIte, if_true, if_false, Bool.false_eq_true, ck_tt, v_fR q0, r1, v_sI kw]
    exact E2.ok (LNr.yes h hA (by omega) (fun c hc => u2_o _ _ _ _ (by omega)) (FX.id.upd (by omega)) ((hW.at6 _).wear _) hW.gb (Nat.le_refl _))
  · have hv' : (nuV b st E n (k0 + 1) 3 99 < 0) = True := eq_true (Int32.not_le.mp hv)
    simp only [hv, hv', Option.bind_some, reduceIte, if_true, if_false, Bool.false_eq_true, ck_tt]
    exact E2.ok (LNr.no h (by omega) rfl (FX.id.upd (by omega)))
theorem l_change (h : BT N I J b L n st E k0) (hs : Shp N) (hm : MN K) (hW : WR 1040 I W g w) (hk : k0 < n) (r : Nat) :
    E2 (F_RoadReader_readChange 1073 (at6 I k0, N)) ((F_Mo_readGates 1528 (rowI (pt J (E (k0 + 1)) r) 1529 W, K)).bind fun v25 => (fR v25.2 1528 19 1).bind fun v26 => (tI v25.2 v26 (6 : Int32) v25.1).bind fun m27 => if v25.1 < 0 then (some ((0 : Int32), m27)) else (some ((1 : Int32), m27))) (LNr N I K J W b L n st E k0) := by
  obtain ⟨q0, r0, r1⟩ := hs.2.2.2.2.1
  have kt : kS N 1003 = 16 := hs.2.2.1.1
  have kw : kS N 1040 = 17 := wa_k hs.2.2.2.1.2.1
  unfold F_RoadReader_readChange
  simp only [v_fR q0, r0, r1, v_qS, kt, q0, Option.bind_some, reduceIte, if_true, if_false, Bool.false_eq_true, ck_tt, a_adv h hs hk]
  refine E2.bind (r_some h hs hm (h.atE hk) (by omega) hW.ga hW.gb hW.g12) ?_
  rintro u v ⟨x, k, p, r', rfl, rfl, k1, k2, hx⟩
  rcases hx with ⟨rfl, rfl⟩ | ⟨k3, hA, hx⟩
  · simp only [show ((0 : Int32) ≤ -1) = False from eq_false (by decide), show ((-1 : Int32) < 0) = True from eq_true (by decide), Option.bind_some, reduceIte, if_true, if_false, Bool.false_eq_true, ck_tt, v_qS, mo_k hm, mw_f hm, mo_r1 hm, mw_gates hm, mw_walkers hm, mw_t hm (show (6 : Int32) = nI 6 from rfl) (show 6 < 2038 by omega)]
    exact E2.ok (LNr.no h k2 rfl (FX.id.upd (by omega)))
  · have hn := hx.nn hW.g12
    simp only [hn, show (x < 0) = False from eq_false (Int32.not_lt.mpr hn), Option.bind_some, reduceIte, if_true, if_false, Bool.false_eq_true, ck_tt, v_qS, mo_k hm, mw_f hm, mo_r1 hm, mw_gates hm, mw_walkers hm, mw_t hm (show (6 : Int32) = nI 6 from rfl) (show 6 < 2038 by omega), v_fR q0, r1, v_sI kw]
    exact E2.ok (LNr.yes h hA (by omega) (fun c hc => u2_o _ _ _ _ (by omega)) (FX.id.upd (by omega)) ((hW.at6 _).change _) hW.gb (Nat.le_refl _))
theorem l_still (h : BT N I J b L n st E k0) (hs : Shp N) (hm : MN K) (hW : WR 1040 I W g w) (hk : k0 < n) (r : Nat) :
    E2 (F_RoadReader_readStill 1073 (at6 I k0, N)) ((fR (rowI (pt J (E (k0 + 1)) r) 1529 W, K) 1528 19 1).bind fun v16 => (tI (rowI (pt J (E (k0 + 1)) r) 1529 W, K) v16 (6 : Int32) (0 : Int32)).bind fun m17 => some ((1 : Int32), m17)) (LNr N I K J W b L n st E k0) := by
  obtain ⟨q0, r0, r1⟩ := hs.2.2.2.2.1
  have kt : kS N 1003 = 16 := hs.2.2.1.1
  have kw : kS N 1040 = 17 := wa_k hs.2.2.2.1.2.1
  unfold F_RoadReader_readStill
  simp only [v_fR q0, r0, r1, v_qS, kt, Option.bind_some, reduceIte, if_true, if_false, Bool.false_eq_true, ck_tt, a_adv h hs hk, v_qS, mo_k hm, mw_f hm, mo_r1 hm, mw_gates hm, mw_walkers hm, mw_t hm (show (6 : Int32) = nI 6 from rfl) (show 6 < 2038 by omega), v_sI kw]
  exact E2.ok (LNr.yes h (h.atE hk) (by omega) (fun c hc => u2_o _ _ _ _ (by omega)) (FX.id.upd (by omega)) ((hW.at6 _).change _) hW.gb (Nat.le_refl _))
theorem l_liar (h : BT N I J b L n st E k0) (hs : Shp N) (hm : MN K) (hW : WR 1040 I W g w) (hk : k0 < n) (r : Nat) :
    E2 (F_RoadReader_readLiar 1073 (at6 I k0, N)) ((F_Mo_number 1528 (0 : Int32) (nI w - (1 : Int32)) (rowI (pt J (E (k0 + 1)) r) 1529 W, K)).bind fun v19 => (if v19.1 < 0 then (some (v19.2)) else ((ck (qS v19.2 1528 = 19)).bind fun h22 => (F_Mo_sets 1528 v19.1 (5 : Int32) (1 : Int32) v19.2).bind fun v21 => some (v21)) : Option (Mem)).bind fun s23 => if v19.1 < 0 then (some ((0 : Int32), s23)) else (some ((1 : Int32), s23))) (LNr N I K J W b L n st E k0) := by
  obtain ⟨q0, r0, r1⟩ := hs.2.2.2.2.1
  have kt : kS N 1003 = 16 := hs.2.2.1.1
  have kw : kS N 1040 = 17 := wa_k hs.2.2.2.1.2.1
  have h8 := hW.w8
  unfold F_RoadReader_readLiar
  simp only [v_fR q0, r0, r1, v_qS, kt, q0, Option.bind_some, reduceIte, if_true, if_false, Bool.false_eq_true, ck_tt, a_adv h hs hk, a_walker h hs (show k0 + 1 ≤ n by omega) hW.wa, b_num h hm (h.atE hk)]
  by_cases hv : 0 ≤ nuV b st E n (k0 + 1) 3 (nI w - 1)
  · obtain ⟨v, v1, v2, v3⟩ := nuV_val (h.mid (h.atE hk) 0).1 (show 3 ≤ 4 by omega) hv
    have hA := h.atF hv
    have hvw := le_pred v1 (by omega) v3
    have hv8 : v < 8 := by omega
    simp only [v2, show ((0 : Int32) ≤ nI v) = True from eq_true (nI_pos' (by omega)), nI_lt0 (show v < 2 ^ 31 by omega), Option.bind_some, reduceIte, if_true, if_false, Bool.false_eq_true, ck_tt, v_qS, mo_k hm, mw_f hm, mo_r1 hm, mw_gates hm, mw_walkers hm, mw_of0 hm hv8, mw_of1 hm hv8, mw_of2 hm hv8, mw_of3 hm hv8, mw_of4 hm hv8, mw_of5 hm hv8, mw_st0 hm hv8, mw_st1 hm hv8, mw_st2 hm hv8, mw_st3 hm hv8, mw_st4 hm hv8, mw_st5 hm hv8, v_fR q0, r1, v_fI kw, v_sI kw]
    exact E2.ok (LNr.yes h hA (by omega) (fun c hc => u2_o _ _ _ _ (by omega)) (FX.id.upd (by omega)) ((hW.at6 _).lie hvw) hW.gb (Nat.le_refl _))
  · have hv' : (nuV b st E n (k0 + 1) 3 (nI w - 1) < 0) = True := eq_true (Int32.not_le.mp hv)
    simp only [hv, hv', Option.bind_some, reduceIte, if_true, if_false, Bool.false_eq_true, ck_tt]
    exact E2.ok (LNr.no h (by omega) rfl FX.id)
end LINE
