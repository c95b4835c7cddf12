/-! a whole line of a law, read by both -/
section LAWM
variable {k k0 k2 n L q s e r t i c d g w p m dep v : Nat} {b st E : Nat → Nat} {I I' I0 I2 : IM} {N N' N0 K : NM} {J J' J0 J2 : IM} {W W' W0 : Nat → Int32} {x y z num : Int32} {S R l : List stT} {P : List lnT} {hd : Bool}
theorem MD.same (h : MD J W R) (h' : MD J' W' (R ++ l)) : ∀ j, 1238 ≤ j → j < 1238 + 2 * R.length → W' j = W j := fun j j1 j2 => by
  have hq : (j - 1238) / 2 < R.length := by omega
  have e1 : R[(j - 1238) / 2]? = some R[(j - 1238) / 2] := List.getElem?_eq_getElem hq
  have e2 : (R ++ l)[(j - 1238) / 2]? = some R[(j - 1238) / 2] := by rw [List.getElem?_append_left hq]; exact e1
  have a1 := h.2 _ _ e1
  have a2 := h'.2 _ _ e2
  by_cases z : (j - 1238) % 2 = 0
  · rw [show j = 1238 + 2 * ((j - 1238) / 2) by omega, a1.1, a2.1]
  · rw [show j = 1238 + 2 * ((j - 1238) / 2) + 1 by omega, a1.2, a2.2]
theorem BT.at12 (h : BT N I J b L n st E k) (z : Int32) : BT N I (u2 J 1528 12 z) b L n st E k := by
  obtain ⟨h1, ⟨⟨h2, h3⟩, h4⟩, q, h5, h6⟩ := h
  exact ⟨h1, ⟨⟨by rw [u2_n _ _ _ _ (by omega)]; exact h2, h3⟩, fun k hk => ⟨(h4 k hk).1, by rw [u2_n _ _ _ _ (by omega)]; exact (h4 k hk).2⟩⟩, q, by rw [u2_n _ _ _ _ (by omega)]; exact h5, h6⟩
theorem l_tail (hH : HL N I J W P) (hs : Shp N) (hm : MN K) (h12 : P.length < 12) (hB : BT N I2 J2 b L n st E k2) (hI : ∀ c j, ¬ (c = 1003 ∧ j = 6) → I2 c j = I c j) (hJ : ∀ c j, ¬ (c = 1528 ∧ (j = 9 ∨ j = 11)) → J2 c j = J c j) (hk : k < k2)
    (hS : (P.flatMap flat).length ≤ 2 * k) (hR : (bod P).length ≤ k) (hnum : num = if hd = true then nI v else -1) (hv : v ≤ 999) (hv0 : hd = false → v = 0) (ht : t = if hd = true then 24 else 25) :
    E2 ((fR (I2, N) 1074 13 0).bind fun v20 => (ck (qS (I2, N) v20 = 16)).bind fun h22 => (F_Text_take v20 26 (I2, N)).bind fun v21 => bdS (V := Mem) (if v21.1 = 0 then ((ck (qS v21.2 1074 = 13)).bind fun h28 => (F_LawReader_write 1074 4 (0 : Int32) v21.2).bind fun v27 => some (.inl v27)) else ((ck (qS v21.2 1074 = 13)).bind fun h25 => (F_LawReader_readCondition 8 1074 (0 : Int32) v21.2).bind fun v24 => if v24.1 = 0 then (some (.inr (((0 : Int32), v24.2)))) else (some (.inl v24.2)))) fun s29 => (ck (qS s29 1074 = 13)).bind fun h31 => (F_LawReader_write 1074 t (nI v) s29).bind fun v30 => (fI v30 1074 13 4).bind fun v32 => (sI v30 1074 13 4 (v32 + (1 : Int32))).bind fun m33 => some ((1 : Int32), m33))
      ((fR (rowI J2 1529 (upd W (1202 + 3 * P.length) num), K) 1528 19 1).bind fun v17 => (fI (rowI J2 1529 (upd W (1202 + 3 * P.length) num), K) 1528 19 15).bind fun v18 => (tI (rowI J2 1529 (upd W (1202 + 3 * P.length) num), K) v17 (((1202 : Int32) + ((3 : Int32) * nI P.length)) + (1 : Int32)) v18).bind fun m19 => (sI m19 1528 19 12 (0 : Int32)).bind fun m20 => (ck (qS m20 1528 = 19)).bind fun h22 => (F_Mo_passes 1528 158 m20).bind fun v21 => bdS (V := Mem) (if v21.1 = 0 then (some (.inl v21.2)) else ((ck (qS v21.2 1528 = 19)).bind fun h25 => (F_Mo_readCond 8 1528 v21.2).bind fun v24 => if v24.1 = 0 then (some (.inr (((0 : Int32), v24.2)))) else (some (.inl v24.2)))) fun s27 => (fR s27 1528 19 1).bind fun v28 => (fI s27 1528 19 15).bind fun v29 => (tI s27 v28 (((1202 : Int32) + ((3 : Int32) * nI P.length)) + (2 : Int32)) v29).bind fun m30 => some ((1 : Int32), m30))
      (LLr N I K J W b L n st E P k) := by
  have hn := hB.1.n_le
  have hk2 := hB.1.2.2.1.2.2
  obtain ⟨e0, e1, -⟩ := hs.2.2.2.2.2.1
  have x0 := hs.2.2.1.1
  obtain ⟨g1, g2, g3, g4, g5⟩ := hH
  have e15 : J2 1528 15 = nI (bod P).length := by rw [hJ _ _ (by omega)]; exact g3.1
  have hB2 := hB.at12 0
  have hC2 : CD N I2 (P.flatMap flat) := ⟨by rw [hI _ _ (by omega)]; exact g1.1, fun j x hx => ⟨(g1.2 j x hx).1, by rw [hI _ _ (by omega)]; exact (g1.2 j x hx).2⟩⟩
  have hW2 : ∀ j, j ≠ 1202 + 3 * P.length → j ≠ 1202 + 3 * P.length + 1 → upd (upd W (1202 + 3 * P.length) num) (1202 + 3 * P.length + 1) (nI (bod P).length) j = W j := fun j j1 j2 => by rw [pk_un j2, pk_un j1]
  have hM2 : MD (u2 J2 1528 12 0) (upd (upd W (1202 + 3 * P.length) num) (1202 + 3 * P.length + 1) (nI (bod P).length)) (bod P) := ⟨by rw [u2_n _ _ _ _ (by omega)]; exact e15, fun j x hx => by rw [hW2 _ (by omega) (by omega), hW2 _ (by omega) (by omega)]; exact g3.2 j x hx⟩
  have hQ0 : LQ N I2 (u2 J2 1528 12 0) (upd (upd W (1202 + 3 * P.length) num) (1202 + 3 * P.length + 1) (nI (bod P).length)) b L n st E (P.flatMap flat) (bod P) k2 0 := ⟨hB2, hC2, hM2, u2_s _ _ _ _⟩
  have hF0 : FRG N I J W N I2 (u2 J2 1528 12 0) (upd (upd W (1202 + 3 * P.length) num) (1202 + 3 * P.length + 1) (nI (bod P).length)) :=
    ⟨fun c c1 c2 c3 => funext fun j => hI c j (by omega), ⟨rfl, fun _ _ => rfl⟩, fun c j z => by rw [u2_n _ _ _ _ (by omega), hJ _ _ (by omega)], fun j hj => hW2 j (by omega) (by omega)⟩
  have w158 := d_word (W := upd (upd W (1202 + 3 * P.length) num) (1202 + 3 * P.length + 1) (nI (bod P).length)) hQ0.1 hm (show (158, 25) ∈ wdT by decide)
  simp only [Nat.reduceAdd] at w158
  have h44 : I2 1074 4 = nI P.length := by rw [hI _ _ (by omega)]; exact g2
  have v1 : upd (upd W (1202 + 3 * P.length) num) (1202 + 3 * P.length + 1) (nI (bod P).length) (1202 + 3 * P.length) = if hd = true then nI v else -1 := by rw [pk_un (by omega), pk_us, hnum]
  have v2 : upd (upd W (1202 + 3 * P.length) num) (1202 + 3 * P.length + 1) (nI (bod P).length) (1202 + 3 * P.length + 1) = nI (bod P).length := pk_us
  simp only [v_fR e0, e1, v_qS, x0, Option.bind_some, reduceIte, if_true, if_false, Bool.false_eq_true, ck_tt, e_take hB.1 hs (show 26 ≤ 36 by omega) (by omega), v_qS, mo_k hm, mw_f hm, mo_r1 hm, mw_gates hm, mw_walkers hm, e15, ix_ll, show nI (1202 + 3 * P.length) + (1 : Int32) = nI (1202 + 3 * P.length + 1) from nI_add _ 1, mw_t hm (show nI (1202 + 3 * P.length + 1) = nI (1202 + 3 * P.length + 1) from rfl) (show 1202 + 3 * P.length + 1 < 2038 by omega), mw_s hm, w158]
  generalize upd (upd W (1202 + 3 * P.length) num) (1202 + 3 * P.length + 1) (nI (bod P).length) = W2 at hW2 hM2 hQ0 hF0 w158 v1 v2 ⊢
  by_cases c26 : kR N 1004 k2 = 26
  · have hk3 := hB.klt hk2 c26 (by omega)
    have hQ1 := hQ0.next hk3
    simp only [c26, Option.bind_some, reduceIte, if_true, if_false, Bool.false_eq_true, ck_tt, i32_10, v_qS, e0, mo_k hm]
    obtain ⟨⟨u1, u2'⟩, ⟨y1, y2⟩, eu, ev, I1, N1, J1, W1, k1, q1, q2, hF1, hT1, hc⟩ := r_conds (N0 := N) (I0 := u2 I2 1003 6 (nI (k2 + 1))) (J0 := pt (u2 J2 1528 12 0) (E (k2 + 1)) (st k2)) (W0 := W2) hs hm (show n ≤ 400 by omega) _ _ _ _ _ _ _ hQ1 FRL.id (by omega) (by omega) (by omega)
    have q1 : u2' = (I1, N1) := q1
    have q2 : y2 = (rowI J1 1529 W1, K) := q2
    subst q1 q2
    rw [show nI 0 = (0 : Int32) from rfl] at eu
    simp only [eu, ev, Option.bind_some, reduceIte, if_true, if_false, Bool.false_eq_true, ck_tt]
    have hFF := hF0.trans (((FRL.step (m := 1238) (k2 + 1) (E (k2 + 1)) (st k2)).trans hF1).toG (by omega))
    rcases hc with ⟨z1, z2, z3⟩ | ⟨z1, z2, l, hkk, hll, hQ2, hty⟩
    · have z1 : u1 = 0 := z1
      have z2 : y1 = 0 := z2
      subst z1 z2
      simp only [Option.bind_some, reduceIte, if_true, if_false, Bool.false_eq_true, ck_tt, bdS_r]
      exact E2.ok (LLr.no hFF hT1 z3)
    · have z1 : u1 = 1 := z1
      have z2 : y1 = 1 := z2
      subst z1 z2
      have hs1 := hFF.shp hs
      have hk1 := hT1.2.2.1.2.2
      have p0 : kS N1 1074 = 13 := hs1.2.2.2.2.2.1.1
      have hty' := hty.2 [] (by show 0 ≤ _; omega)
      have hne : ¬ l = [] := fun z => by rw [z] at hty'; exact absurd hty' (by decide)
      have elen : (P.flatMap flat ++ l).length = (P.flatMap flat).length + l.length := List.length_append
      have elen2 : (bod P ++ l).length = (bod P).length + l.length := List.length_append
      simp only [Option.bind_some, reduceIte, if_true, if_false, Bool.false_eq_true, ck_tt, i32_10, bdS_l, v_qS, p0]
      refine l_end (k := k1) (dep := 0) (k0 := k) (hd := hd) (v := v) (l := l) ⟨g1, g2, g3, g4, g5⟩ h12 hs1 hm ?_ hFF ?_ (fun j hj => ?_) ?_ ?_ ?_ hv hv0 (Or.inr hty') hty.1 (by omega) ?_ ?_ ?_ ?_ ht
      · rw [if_neg hne]; exact hQ2
      · rw [hF1.2.1.1, u2_n _ _ _ _ (by omega)]; exact h44
      · rw [hF1.2.2.2 j (by omega), hW2 j (by omega) (by omega)]
      · rw [hF1.2.2.2 _ (by omega)]; exact v1
      · rw [hF1.2.2.2 _ (by omega)]; exact v2
      · exact MD.same g3 hQ2.2.2.1
      · rw [if_neg hne, elen]; omega
      · rw [if_neg hne, elen]; omega
      · rw [elen2]; omega
      · rw [elen2]; omega
  · have hQ1 := hQ0.stay
    have w := c_write hs hC2 (by omega) (show 17 < 18 by omega) (t := 4) rfl 0
    have hFe : FRL N I2 (u2 J2 1528 12 0) W2 1238 (rN N 1075 (P.flatMap flat).length (tkOf 17)) (emI I2 (P.flatMap flat).length 0) (pt (u2 J2 1528 12 0) (st k2) (st k2)) W2 := by
      have := (FRL.emit (I := I2) (N := N) (J := J2) (W := W2) (m1 := (P.flatMap flat).length) (m2 := 0) (r := tkOf 17) (x := 0) (y := 0) (z := 0) (Nat.le_refl 1238))
      exact ⟨this.1, this.2.1, fun c j z => pt_o _ _ _ (by omega), fun _ _ => rfl⟩
    have hFF := hF0.trans (hFe.toG (by omega))
    have hs1 := hFF.shp hs
    have p0 : kS (rN N 1075 (P.flatMap flat).length (tkOf 17)) 1074 = 13 := e0
    simp only [c26, Option.bind_some, reduceIte, if_true, if_false, Bool.false_eq_true, ck_tt, v_qS, e0, w, bdS_l, p0]
    have elen : (P.flatMap flat ++ [(17, (0 : Int32))]).length = (P.flatMap flat).length + 1 := by rw [List.length_append]; rfl
    refine l_end (k := k2) (dep := 0) (k0 := k) (hd := hd) (v := v) (l := []) ⟨g1, g2, g3, g4, g5⟩ h12 hs1 hm ?_ hFF ?_ (fun j hj => ?_) ?_ ?_ ?_ hv hv0 (Or.inl rfl) (fun x hx => by cases hx) hk ?_ ?_ ?_ ?_ ht
    · rw [if_pos rfl, List.append_nil]
      exact ⟨⟨hB.1.emit _ _ _, hQ1.1.2⟩, hC2.emit 17 0, hQ1.2.2.1, hQ1.2.2.2⟩
    · rw [hFe.2.1.1]; exact h44
    · rw [hW2 j (by omega) (by omega)]
    · exact v1
    · exact v2
    · exact fun j j1 j2 => hW2 j (by omega) (by omega)
    · rw [if_pos rfl, elen]; omega
    · rw [if_pos rfl, elen]; omega
    · rw [List.append_nil]; omega
    · rw [List.append_nil]; omega
end LAWM
